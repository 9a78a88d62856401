/-! QuotedLayers$Passage.begin(LQuotedLayers$Row;)V -/
def rm_X3_begin : Room := { frames := 3, cells := 0, slots := 0, locals := 65 }
theorem rf_X3_begin_X3_here : RF rm_X3_here rm_X3_begin 1 := ⟨⟨by decide, by decide⟩, rfl, rfl⟩
theorem rf_X3_begin_X4_copyFrom : RF rm_X4_copyFrom rm_X3_begin 2 := ⟨⟨by decide, by decide⟩, rfl, rfl⟩
def f_X3_begin (K : KT) (P : PT) (l0 : Nat) (l1 : Nat) (V : VT) : Option (Unit × VT) :=
  cV K l0 1 (f_X3_here K P l0 V) fun b2 V1 => cV K b2 2 (f_X4_copyFrom K P b2 l1 V1) fun u4 V3 => some ((), V3)
set_option maxRecDepth 20000 in
theorem w_X3_begin_0 {g : GT} {K : KT} {P : PT} {res : Unit × VT} (h : OK g RX3 cX3_begin 2 none) {l0 : Nat} {l1 : Nat} {V : VT} (hf : f_X3_begin K P l0 l1 V = some res) : J g rm_X3_begin (QF g none K P res.2 0 0) 2 K P V 0 0 0 [some (.ref l0), some (.ref l1)] [] := by
  rw [f_X3_begin] at hf
  refine j_aload_n (q := 1) h dX3_begin_0 rfl rfl ?_
  refine j_cVa (q := 4) (As := []) h rfl hf (fun _ hx => ct_X3_here _ _ _ hx) ml_X3_34 vw_X3_here rf_X3_begin_X3_here ⟨Nat.zero_le _, Nat.zero_le _⟩ (Nat.le_of_ble_eq_true rfl) dX3_begin_1 rfl (fun b2 _ hf => ?_)
  refine j_aload_n (q := 5) h dX3_begin_4 rfl rfl ?_
  refine j_cVv (q := 8) (As := [.ref _]) h rfl hf (fun _ hx => ct_X4_copyFrom _ _ _ hx) ml_X3_38 vw_X4_copyFrom rf_X3_begin_X4_copyFrom ⟨Nat.zero_le _, Nat.zero_le _⟩ (Nat.le_of_ble_eq_true rfl) dX3_begin_5 rfl (fun _ _ hf => ?_)
  exact j_vret h dX3_begin_8 hf
theorem ct_X3_begin (l : Launch) (D : va_G) (T : TT) {K : KT} {P : PT} {l0 : Nat} {l1 : Nat} {V : VT} {res : Unit × VT} (hf : f_X3_begin K P l0 l1 V = some res) : CT l D T yX3_begin cX3_begin 2 none rm_X3_begin K P V [.ref l0, .ref l1] none res.2 :=
  fun _ => CT_of pn_X3 (cat_a (cat_a cat_0)) (Nat.le_of_ble_eq_true rfl) [some (.ref l0), some (.ref l1)] rfl (fun _ _ _ h => w_X3_begin_0 h hf)
/-! QuotedLayers$Stand.layerAt(I)LQuotedLayers$Layer; -/
def rm_X5_layerAt : Room := { frames := 0, cells := 0, slots := 0, locals := 0 }
def f_X5_layerAt (K : KT) (P : PT) (l0 : Nat) (l1 : Int32) (V : VT) : Option (Nat × VT) :=
  if l1 < 0 then (gR K P l0 3 1 fun b1 => some (b1, V)) else (gR K P l0 3 0 fun b2 => aN K b2 fun x3 => if l1 < x3 then (gR K P l0 3 0 fun b5 => aQ K P b5 l1 fun b6 => gR K P l0 3 0 fun b7 => aQ K P b7 l1 fun b8 => some (b8, V)) else (gR K P l0 3 1 fun b4 => some (b4, V)))
set_option maxRecDepth 20000 in
theorem w_X5_layerAt_0 {g : GT} {K : KT} {P : PT} {res : Nat × VT} (h : OK g RX5 cX5_layerAt 2 (some (.object "QuotedLayers$Layer"))) {l0 : Nat} {l1 : Int32} {V : VT} (hf : f_X5_layerAt K P l0 l1 V = some res) : J g rm_X5_layerAt (QF g (some (.ref res.1)) K P res.2 0 0) 2 K P V 0 0 0 [some (.ref l0), some (.int l1)] [] := by
  rw [f_X5_layerAt] at hf
  refine j_iload_n (q := 1) h dX5_layerAt_0 rfl rfl ?_
  refine j_if_lt (q := 4) 22 h dX5_layerAt_1 (by decide) rfl hf (fun hf => ?_) (fun hf => ?_)
  · refine j_aload_n (q := 23) h dX5_layerAt_22 rfl rfl ?_
    refine j_gR (q := 26) h uin_X5 rfl rfl (by decide) rfl fl_X5_18 dX5_layerAt_23 rfl hf (fun b1 hf => ?_)
    exact j_aret h dX5_layerAt_26 hf
  · refine j_iload_n (q := 5) h dX5_layerAt_4 rfl rfl ?_
    refine j_aload_n (q := 6) h dX5_layerAt_5 rfl rfl ?_
    refine j_gR (q := 9) h uin_X5 rfl rfl (by decide) rfl fl_X5_11 dX5_layerAt_6 rfl hf (fun b2 hf => ?_)
    refine j_alen (q := 10) h dX5_layerAt_9 rfl hf (fun _ hf => ?_)
    refine j_icmp_ge (q := 13) 22 h dX5_layerAt_10 (by decide) rfl hf (fun hf => ?_) (fun hf => ?_)
    · refine j_aload_n (q := 23) h dX5_layerAt_22 rfl rfl ?_
      refine j_gR (q := 26) h uin_X5 rfl rfl (by decide) rfl fl_X5_18 dX5_layerAt_23 rfl hf (fun b4 hf => ?_)
      exact j_aret h dX5_layerAt_26 hf
    · refine j_aload_n (q := 14) h dX5_layerAt_13 rfl rfl ?_
      refine j_gR (q := 17) h uin_X5 rfl rfl (by decide) rfl fl_X5_11 dX5_layerAt_14 rfl hf (fun b5 hf => ?_)
      refine j_iload_n (q := 18) h dX5_layerAt_17 rfl rfl ?_
      refine j_aald (q := 19) h dX5_layerAt_18 rfl hf (fun b6 hf => ?_)
      refine j_nonnull 27 h dX5_layerAt_19 (by decide) ?_
      refine j_aload_n (q := 28) h dX5_layerAt_27 rfl rfl ?_
      refine j_gR (q := 31) h uin_X5 rfl rfl (by decide) rfl fl_X5_11 dX5_layerAt_28 rfl hf (fun b7 hf => ?_)
      refine j_iload_n (q := 32) h dX5_layerAt_31 rfl rfl ?_
      refine j_aald (q := 33) h dX5_layerAt_32 rfl hf (fun b8 hf => ?_)
      exact j_aret h dX5_layerAt_33 hf
theorem ct_X5_layerAt (l : Launch) (D : va_G) (T : TT) {K : KT} {P : PT} {l0 : Nat} {l1 : Int32} {V : VT} {res : Nat × VT} (hf : f_X5_layerAt K P l0 l1 V = some res) : CT l D T yX5_layerAt cX5_layerAt 2 (some (.object "QuotedLayers$Layer")) rm_X5_layerAt K P V [.ref l0, .int l1] (some (.ref res.1)) res.2 :=
  fun _ => CT_of pn_X5 (cat_a (cat_i cat_0)) (Nat.le_of_ble_eq_true rfl) [some (.ref l0), some (.int l1)] rfl (fun _ _ _ h => w_X5_layerAt_0 h hf)
/-! QuotedLayers$Passage.putThrough(LQuotedLayers$Stand;LQuotedLayers$Row;LQuotedLayers$Row;I)I -/
def rm_X3_putThrough : Room := { frames := 3, cells := 0, slots := 0, locals := 70 }
theorem rf_X3_putThrough_X1_put : RF rm_X1_put rm_X3_putThrough 7 := ⟨⟨by decide, by decide⟩, rfl, rfl⟩
theorem rf_X3_putThrough_X3_here : RF rm_X3_here rm_X3_putThrough 1 := ⟨⟨by decide, by decide⟩, rfl, rfl⟩
theorem rf_X3_putThrough_X3_step : RF rm_X3_step rm_X3_putThrough 1 := ⟨⟨by decide, by decide⟩, rfl, rfl⟩
theorem rf_X3_putThrough_X3_there : RF rm_X3_there rm_X3_putThrough 1 := ⟨⟨by decide, by decide⟩, rfl, rfl⟩
theorem rf_X3_putThrough_X4_at : RF rm_X4_at rm_X3_putThrough 2 := ⟨⟨by decide, by decide⟩, rfl, rfl⟩
theorem rf_X3_putThrough_X4_copyFrom : RF rm_X4_copyFrom rm_X3_putThrough 2 := ⟨⟨by decide, by decide⟩, rfl, rfl⟩
theorem rf_X3_putThrough_X4_size : RF rm_X4_size rm_X3_putThrough 1 := ⟨⟨by decide, by decide⟩, rfl, rfl⟩
theorem rf_X3_putThrough_X5_layerAt : RF rm_X5_layerAt rm_X3_putThrough 2 := ⟨⟨by decide, by decide⟩, rfl, rfl⟩
def f_X3_putThrough_74 (K : KT) (P : PT) (k17 : Nat → Nat → Nat → Int32 → Int32 → VT → Option (Int32 × VT)) (l0 : Nat) (l1 : Nat) (l2 : Nat) (l4 : Int32) (l5 : Int32) (l6 : Int32) (V : VT) : Option (Int32 × VT) :=
  if l6 = ((-5 : Int32)) then (some (l6, V)) else (if l6 = ((-7 : Int32)) then (some (l6, V)) else (cV K l0 1 (f_X3_step K P l0 V) fun u2 V1 => k17 l0 l1 l2 l4 (l5 + (1 : Int32)) V1))
def f_X3_putThrough_56 (K : KT) (P : PT) (k17 : Nat → Nat → Nat → Int32 → Int32 → VT → Option (Int32 × VT)) (l0 : Nat) (l1 : Nat) (l2 : Nat) (l4 : Int32) (l5 : Int32) (s0 : Nat) (s1 : Nat) (s2 : Nat) (s3 : Int32) (V : VT) : Option (Int32 × VT) :=
  cV K s0 0 (f_X1_put K P s0 s1 s2 s3 V) fun x2 V1 => if x2 = ((-5 : Int32)) then (sI K V1 l0 1 3 l5 fun V3 => f_X3_putThrough_74 K P k17 l0 l1 l2 l4 l5 x2 V3) else (f_X3_putThrough_74 K P k17 l0 l1 l2 l4 l5 x2 V1)
def f_X3_putThrough_17 (K : KT) (P : PT) : Nat → Nat → Nat → Nat → Int32 → Int32 → VT → Option (Int32 × VT)
  | 0, _, _, _, _, _, _ => none
  | n + 1, l0, l1, l2, l4, l5, V => cV K l2 2 (f_X4_size K P l2 V) fun x2 V1 => if l5 < x2 then (cV K l2 2 (f_X4_at K P l2 l5 V1) fun x8 V7 => cV K l1 3 (f_X5_layerAt K P l1 x8 V7) fun b10 V9 => cV K l0 1 (f_X3_here K P l0 V9) fun b12 V11 => cV K l0 1 (f_X3_there K P l0 V11) fun b14 V13 => if l5 = l4 then (f_X3_putThrough_56 K P (f_X3_putThrough_17 K P n) l0 l1 l2 l4 l5 b10 b12 b14 ((1 : Int32)) V13) else (f_X3_putThrough_56 K P (f_X3_putThrough_17 K P n) l0 l1 l2 l4 l5 b10 b12 b14 ((0 : Int32)) V13)) else (cV K l0 1 (f_X3_here K P l0 V1) fun b4 V3 => cV K b4 2 (f_X4_size K P b4 V3) fun x6 V5 => some (x6, V5))
def f_X3_putThrough (K : KT) (P : PT) (l0 : Nat) (l1 : Nat) (l2 : Nat) (l3 : Nat) (l4 : Int32) (V : VT) : Option (Int32 × VT) :=
  sI K V l0 1 3 ((-6 : Int32)) fun V1 => cV K l0 1 (f_X3_here K P l0 V1) fun b3 V2 => cV K b3 2 (f_X4_copyFrom K P b3 l3 V2) fun u5 V4 => f_X3_putThrough_17 K P FU l0 l1 l2 l4 ((0 : Int32)) V4
set_option maxRecDepth 20000 in
theorem w_X3_putThrough_74 {g : GT} {K : KT} {P : PT} {res : Int32 × VT} (h : OK g RX3 cX3_putThrough 7 (some .int)) {k17 : Nat → Nat → Nat → Int32 → Int32 → VT → Option (Int32 × VT)} (hk17 : ∀ (l0 : Nat) (l1 : Nat) (l2 : Nat) (l4 : Int32) (l5 : Int32) (V : VT), k17 l0 l1 l2 l4 l5 V = some res → J g rm_X3_putThrough (QF g (some (.int res.1)) K P res.2 0 0) 7 K P V 0 0 17 [some (.ref l0), some (.ref l1), some (.ref l2), none, some (.int l4), some (.int l5), none] []) {l0 : Nat} {l1 : Nat} {l2 : Nat} {l4 : Int32} {l5 : Int32} {l6 : Int32} {V : VT} (hf : f_X3_putThrough_74 K P k17 l0 l1 l2 l4 l5 l6 V = some res) : J g rm_X3_putThrough (QF g (some (.int res.1)) K P res.2 0 0) 7 K P V 0 0 74 [some (.ref l0), some (.ref l1), some (.ref l2), none, some (.int l4), some (.int l5), some (.int l6)] [] := by
  rw [f_X3_putThrough_74] at hf
  refine j_iload (q := 76) h dX3_putThrough_74 rfl rfl ?_
  refine j_bipush (q := 78) (-5) h dX3_putThrough_76 kb_m5 rfl ?_
  refine j_icmp_eq (q := 81) 88 h dX3_putThrough_78 (by decide) rfl hf (fun hf => ?_) (fun hf => ?_)
  · refine j_iload (q := 90) h dX3_putThrough_88 rfl rfl ?_
    exact j_iret h dX3_putThrough_90 hf
  · refine j_iload (q := 83) h dX3_putThrough_81 rfl rfl ?_
    refine j_bipush (q := 85) (-7) h dX3_putThrough_83 kb_m7 rfl ?_
    refine j_icmp_ne (q := 88) 91 h dX3_putThrough_85 (by decide) rfl hf (fun hf => ?_) (fun hf => ?_)
    · refine j_aload_n (q := 92) h dX3_putThrough_91 rfl rfl ?_
      refine j_cVv (q := 95) (As := []) h rfl hf (fun _ hx => ct_X3_step _ _ _ hx) ml_X3_65 vw_X3_step rf_X3_putThrough_X3_step ⟨Nat.zero_le _, Nat.zero_le _⟩ (Nat.le_of_ble_eq_true rfl) dX3_putThrough_92 rfl (fun _ _ hf => ?_)
      refine j_iinc (q := 98) _ [_, _, _, _, _, _, _] h dX3_putThrough_95 rfl (by decide) rfl (kc_1 _) rfl rfl ?_
      refine j_goto 17 h dX3_putThrough_98 (by decide) ?_
      exact j_sub (lsub_s (lsub_s (lsub_s (lsub_n (lsub_s (lsub_s (lsub_n lsub_0))))))) (hk17 _ _ _ _ _ _ hf)
    · refine j_iload (q := 90) h dX3_putThrough_88 rfl rfl ?_
      exact j_iret h dX3_putThrough_90 hf
set_option maxRecDepth 20000 in
theorem w_X3_putThrough_56 {g : GT} {K : KT} {P : PT} {res : Int32 × VT} (h : OK g RX3 cX3_putThrough 7 (some .int)) {k17 : Nat → Nat → Nat → Int32 → Int32 → VT → Option (Int32 × VT)} (hk17 : ∀ (l0 : Nat) (l1 : Nat) (l2 : Nat) (l4 : Int32) (l5 : Int32) (V : VT), k17 l0 l1 l2 l4 l5 V = some res → J g rm_X3_putThrough (QF g (some (.int res.1)) K P res.2 0 0) 7 K P V 0 0 17 [some (.ref l0), some (.ref l1), some (.ref l2), none, some (.int l4), some (.int l5), none] []) {l0 : Nat} {l1 : Nat} {l2 : Nat} {l4 : Int32} {l5 : Int32} {s0 : Nat} {s1 : Nat} {s2 : Nat} {s3 : Int32} {V : VT} (hf : f_X3_putThrough_56 K P k17 l0 l1 l2 l4 l5 s0 s1 s2 s3 V = some res) : J g rm_X3_putThrough (QF g (some (.int res.1)) K P res.2 0 0) 7 K P V 0 0 56 [some (.ref l0), some (.ref l1), some (.ref l2), none, some (.int l4), some (.int l5), none] [.int s3, .ref s2, .ref s1, .ref s0] := by
  rw [f_X3_putThrough_56] at hf
  refine j_cVi (q := 59) (As := [.ref _, .ref _, .int _]) h rfl hf (fun _ hx => ct_X1_put _ _ _ hx) ml_X3_59 vw_X1_put rf_X3_putThrough_X1_put ⟨Nat.zero_le _, Nat.zero_le _⟩ (Nat.le_of_ble_eq_true rfl) dX3_putThrough_56 rfl (fun _ _ hf => ?_)
  refine j_istore (q := 61) [_, _, _, _, _, _, _] h dX3_putThrough_59 rfl (by decide) rfl rfl ?_
  refine j_iload (q := 63) h dX3_putThrough_61 rfl rfl ?_
  refine j_bipush (q := 65) (-5) h dX3_putThrough_63 kb_m5 rfl ?_
  refine j_icmp_ne (q := 68) 74 h dX3_putThrough_65 (by decide) rfl hf (fun hf => ?_) (fun hf => ?_)
  · exact j_sub (lsub_s (lsub_s (lsub_s (lsub_n (lsub_s (lsub_s (lsub_s lsub_0))))))) (w_X3_putThrough_74 h hk17 hf)
  · refine j_aload_n (q := 69) h dX3_putThrough_68 rfl rfl ?_
    refine j_iload (q := 71) h dX3_putThrough_69 rfl rfl ?_
    refine j_sI (q := 74) h tyX3 tyX3_ok nmX3 uin_X3 rfl rfl (by decide) rfl rfl (by decide +kernel) fl_X3_27 dX3_putThrough_71 rfl hf (fun hf => ?_)
    exact j_sub (lsub_s (lsub_s (lsub_s (lsub_n (lsub_s (lsub_s (lsub_s lsub_0))))))) (w_X3_putThrough_74 h hk17 hf)
set_option maxRecDepth 20000 in
theorem w_X3_putThrough_17 {g : GT} {K : KT} {P : PT} {res : Int32 × VT} (h : OK g RX3 cX3_putThrough 7 (some .int)) : ∀ (n : Nat) (l0 : Nat) (l1 : Nat) (l2 : Nat) (l4 : Int32) (l5 : Int32) (V : VT), f_X3_putThrough_17 K P n l0 l1 l2 l4 l5 V = some res → J g rm_X3_putThrough (QF g (some (.int res.1)) K P res.2 0 0) 7 K P V 0 0 17 [some (.ref l0), some (.ref l1), some (.ref l2), none, some (.int l4), some (.int l5), none] [] := by
  intro n
  induction n with
  | zero => intro l0 l1 l2 l4 l5 V hf; rw [f_X3_putThrough_17] at hf; cases hf
  | succ n ih =>
    intro l0 l1 l2 l4 l5 V hf
    rw [f_X3_putThrough_17] at hf
    refine j_iload (q := 19) h dX3_putThrough_17 rfl rfl ?_
    refine j_aload_n (q := 20) h dX3_putThrough_19 rfl rfl ?_
    refine j_cVi (q := 23) (As := []) h rfl hf (fun _ hx => ct_X4_size _ _ _ hx) ml_X3_42 vw_X4_size rf_X3_putThrough_X4_size ⟨Nat.zero_le _, Nat.zero_le _⟩ (Nat.le_of_ble_eq_true rfl) dX3_putThrough_20 rfl (fun _ _ hf => ?_)
    refine j_icmp_ge (q := 26) 101 h dX3_putThrough_23 (by decide) rfl hf (fun hf => ?_) (fun hf => ?_)
    · refine j_aload_n (q := 102) h dX3_putThrough_101 rfl rfl ?_
      refine j_cVa (q := 105) (As := []) h rfl hf (fun _ hx => ct_X3_here _ _ _ hx) ml_X3_34 vw_X3_here rf_X3_putThrough_X3_here ⟨Nat.zero_le _, Nat.zero_le _⟩ (Nat.le_of_ble_eq_true rfl) dX3_putThrough_102 rfl (fun b4 _ hf => ?_)
      refine j_cVi (q := 108) (As := []) h rfl hf (fun _ hx => ct_X4_size _ _ _ hx) ml_X3_42 vw_X4_size rf_X3_putThrough_X4_size ⟨Nat.zero_le _, Nat.zero_le _⟩ (Nat.le_of_ble_eq_true rfl) dX3_putThrough_105 rfl (fun _ _ hf => ?_)
      exact j_iret h dX3_putThrough_108 hf
    · refine j_aload_n (q := 27) h dX3_putThrough_26 rfl rfl ?_
      refine j_aload_n (q := 28) h dX3_putThrough_27 rfl rfl ?_
      refine j_iload (q := 30) h dX3_putThrough_28 rfl rfl ?_
      refine j_cVi (q := 33) (As := [.int _]) h rfl hf (fun _ hx => ct_X4_at _ _ _ hx) ml_X3_46 vw_X4_at rf_X3_putThrough_X4_at ⟨Nat.zero_le _, Nat.zero_le _⟩ (Nat.le_of_ble_eq_true rfl) dX3_putThrough_30 rfl (fun _ _ hf => ?_)
      refine j_cVa (q := 36) (As := [.int _]) h rfl hf (fun _ hx => ct_X5_layerAt _ _ _ hx) ml_X3_50 vw_X5_layerAt rf_X3_putThrough_X5_layerAt ⟨Nat.zero_le _, Nat.zero_le _⟩ (Nat.le_of_ble_eq_true rfl) dX3_putThrough_33 rfl (fun b10 _ hf => ?_)
      refine j_aload_n (q := 37) h dX3_putThrough_36 rfl rfl ?_
      refine j_cVa (q := 40) (As := []) h rfl hf (fun _ hx => ct_X3_here _ _ _ hx) ml_X3_34 vw_X3_here rf_X3_putThrough_X3_here ⟨Nat.zero_le _, Nat.zero_le _⟩ (Nat.le_of_ble_eq_true rfl) dX3_putThrough_37 rfl (fun b12 _ hf => ?_)
      refine j_aload_n (q := 41) h dX3_putThrough_40 rfl rfl ?_
      refine j_cVa (q := 44) (As := []) h rfl hf (fun _ hx => ct_X3_there _ _ _ hx) ml_X3_56 vw_X3_there rf_X3_putThrough_X3_there ⟨Nat.zero_le _, Nat.zero_le _⟩ (Nat.le_of_ble_eq_true rfl) dX3_putThrough_41 rfl (fun b14 _ hf => ?_)
      refine j_iload (q := 46) h dX3_putThrough_44 rfl rfl ?_
      refine j_iload (q := 48) h dX3_putThrough_46 rfl rfl ?_
      refine j_icmp_ne (q := 51) 55 h dX3_putThrough_48 (by decide) rfl hf (fun hf => ?_) (fun hf => ?_)
      · refine j_iconst (q := 56) (0) h dX3_putThrough_55 ki_0 rfl ?_
        exact j_sub (lsub_s (lsub_s (lsub_s (lsub_n (lsub_s (lsub_s (lsub_n lsub_0))))))) (w_X3_putThrough_56 h ih hf)
      · refine j_iconst (q := 52) (1) h dX3_putThrough_51 ki_1 rfl ?_
        refine j_goto 56 h dX3_putThrough_52 (by decide) ?_
        exact j_sub (lsub_s (lsub_s (lsub_s (lsub_n (lsub_s (lsub_s (lsub_n lsub_0))))))) (w_X3_putThrough_56 h ih hf)
set_option maxRecDepth 20000 in
theorem w_X3_putThrough_0 {g : GT} {K : KT} {P : PT} {res : Int32 × VT} (h : OK g RX3 cX3_putThrough 7 (some .int)) {l0 : Nat} {l1 : Nat} {l2 : Nat} {l3 : Nat} {l4 : Int32} {V : VT} (hf : f_X3_putThrough K P l0 l1 l2 l3 l4 V = some res) : J g rm_X3_putThrough (QF g (some (.int res.1)) K P res.2 0 0) 7 K P V 0 0 0 [some (.ref l0), some (.ref l1), some (.ref l2), some (.ref l3), some (.int l4), none, none] [] := by
  rw [f_X3_putThrough] at hf
  refine j_aload_n (q := 1) h dX3_putThrough_0 rfl rfl ?_
  refine j_bipush (q := 3) (-6) h dX3_putThrough_1 kb_m6 rfl ?_
  refine j_sI (q := 6) h tyX3 tyX3_ok nmX3 uin_X3 rfl rfl (by decide) rfl rfl (by decide +kernel) fl_X3_27 dX3_putThrough_3 rfl hf (fun hf => ?_)
  refine j_aload_n (q := 7) h dX3_putThrough_6 rfl rfl ?_
  refine j_cVa (q := 10) (As := []) h rfl hf (fun _ hx => ct_X3_here _ _ _ hx) ml_X3_34 vw_X3_here rf_X3_putThrough_X3_here ⟨Nat.zero_le _, Nat.zero_le _⟩ (Nat.le_of_ble_eq_true rfl) dX3_putThrough_7 rfl (fun b3 _ hf => ?_)
  refine j_aload_n (q := 11) h dX3_putThrough_10 rfl rfl ?_
  refine j_cVv (q := 14) (As := [.ref _]) h rfl hf (fun _ hx => ct_X4_copyFrom _ _ _ hx) ml_X3_38 vw_X4_copyFrom rf_X3_putThrough_X4_copyFrom ⟨Nat.zero_le _, Nat.zero_le _⟩ (Nat.le_of_ble_eq_true rfl) dX3_putThrough_11 rfl (fun _ _ hf => ?_)
  refine j_iconst (q := 15) (0) h dX3_putThrough_14 ki_0 rfl ?_
  refine j_istore (q := 17) [_, _, _, _, _, _, _] h dX3_putThrough_15 rfl (by decide) rfl rfl ?_
  exact j_sub (lsub_s (lsub_s (lsub_s (lsub_n (lsub_s (lsub_s (lsub_n lsub_0))))))) (w_X3_putThrough_17 h FU _ _ _ _ _ _ hf)
theorem ct_X3_putThrough (l : Launch) (D : va_G) (T : TT) {K : KT} {P : PT} {l0 : Nat} {l1 : Nat} {l2 : Nat} {l3 : Nat} {l4 : Int32} {V : VT} {res : Int32 × VT} (hf : f_X3_putThrough K P l0 l1 l2 l3 l4 V = some res) : CT l D T yX3_putThrough cX3_putThrough 7 (some .int) rm_X3_putThrough K P V [.ref l0, .ref l1, .ref l2, .ref l3, .int l4] (some (.int res.1)) res.2 :=
  fun _ => CT_of pn_X3 (cat_a (cat_a (cat_a (cat_a (cat_i cat_0))))) (Nat.le_of_ble_eq_true rfl) [some (.ref l0), some (.ref l1), some (.ref l2), some (.ref l3), some (.int l4), none, none] rfl (fun _ _ _ h => w_X3_putThrough_0 h hf)
/-! QuotedLayers$Passage.readBack(LQuotedLayers$Stand;LQuotedLayers$Row;)I -/
def rm_X3_readBack : Room := { frames := 3, cells := 0, slots := 0, locals := 74 }
theorem rf_X3_readBack_X1_takeOff : RF rm_X1_takeOff rm_X3_readBack 6 := ⟨⟨by decide, by decide⟩, rfl, rfl⟩
theorem rf_X3_readBack_X3_here : RF rm_X3_here rm_X3_readBack 1 := ⟨⟨by decide, by decide⟩, rfl, rfl⟩
theorem rf_X3_readBack_X3_step : RF rm_X3_step rm_X3_readBack 1 := ⟨⟨by decide, by decide⟩, rfl, rfl⟩
theorem rf_X3_readBack_X3_there : RF rm_X3_there rm_X3_readBack 1 := ⟨⟨by decide, by decide⟩, rfl, rfl⟩
theorem rf_X3_readBack_X4_at : RF rm_X4_at rm_X3_readBack 2 := ⟨⟨by decide, by decide⟩, rfl, rfl⟩
theorem rf_X3_readBack_X4_size : RF rm_X4_size rm_X3_readBack 1 := ⟨⟨by decide, by decide⟩, rfl, rfl⟩
theorem rf_X3_readBack_X5_layerAt : RF rm_X5_layerAt rm_X3_readBack 2 := ⟨⟨by decide, by decide⟩, rfl, rfl⟩
def f_X3_readBack_13 (K : KT) (P : PT) : Nat → Nat → Nat → Nat → Int32 → VT → Option (Int32 × VT)
  | 0, _, _, _, _, _ => none
  | n + 1, l0, l1, l2, l3, V => if l3 < 0 then (some ((-6 : Int32), V)) else (cV K l2 2 (f_X4_at K P l2 l3 V) fun x2 V1 => cV K l1 3 (f_X5_layerAt K P l1 x2 V1) fun b4 V3 => cV K l0 1 (f_X3_here K P l0 V3) fun b6 V5 => cV K l0 1 (f_X3_there K P l0 V5) fun b8 V7 => cV K b4 0 (f_X1_takeOff K P b4 b6 b8 V7) fun x10 V9 => sI K V9 l0 1 4 x10 fun V11 => gI K V11 l0 1 4 fun x12 => if x12 = ((-6 : Int32)) then (cV K l0 1 (f_X3_step K P l0 V11) fun u14 V13 => (f_X3_readBack_13 K P n) l0 l1 l2 (l3 + (-1 : Int32)) V13) else (some (l3, V11)))
def f_X3_readBack (K : KT) (P : PT) (l0 : Nat) (l1 : Nat) (l2 : Nat) (V : VT) : Option (Int32 × VT) :=
  sI K V l0 1 4 ((-6 : Int32)) fun V1 => cV K l2 2 (f_X4_size K P l2 V1) fun x3 V2 => f_X3_readBack_13 K P FU l0 l1 l2 (x3 - ((1 : Int32))) V2
set_option maxRecDepth 20000 in
theorem w_X3_readBack_13 {g : GT} {K : KT} {P : PT} {res : Int32 × VT} (h : OK g RX3 cX3_readBack 4 (some .int)) : ∀ (n : Nat) (l0 : Nat) (l1 : Nat) (l2 : Nat) (l3 : Int32) (V : VT), f_X3_readBack_13 K P n l0 l1 l2 l3 V = some res → J g rm_X3_readBack (QF g (some (.int res.1)) K P res.2 0 0) 4 K P V 0 0 13 [some (.ref l0), some (.ref l1), some (.ref l2), some (.int l3)] [] := by
  intro n
  induction n with
  | zero => intro l0 l1 l2 l3 V hf; rw [f_X3_readBack_13] at hf; cases hf
  | succ n ih =>
    intro l0 l1 l2 l3 V hf
    rw [f_X3_readBack_13] at hf
    refine j_iload_n (q := 14) h dX3_readBack_13 rfl rfl ?_
    refine j_if_lt (q := 17) 62 h dX3_readBack_14 (by decide) rfl hf (fun hf => ?_) (fun hf => ?_)
    · refine j_bipush (q := 64) (-6) h dX3_readBack_62 kb_m6 rfl ?_
      exact j_iret h dX3_readBack_64 hf
    · refine j_aload_n (q := 18) h dX3_readBack_17 rfl rfl ?_
      refine j_aload_n (q := 19) h dX3_readBack_18 rfl rfl ?_
      refine j_aload_n (q := 20) h dX3_readBack_19 rfl rfl ?_
      refine j_iload_n (q := 21) h dX3_readBack_20 rfl rfl ?_
      refine j_cVi (q := 24) (As := [.int _]) h rfl hf (fun _ hx => ct_X4_at _ _ _ hx) ml_X3_46 vw_X4_at rf_X3_readBack_X4_at ⟨Nat.zero_le _, Nat.zero_le _⟩ (Nat.le_of_ble_eq_true rfl) dX3_readBack_21 rfl (fun _ _ hf => ?_)
      refine j_cVa (q := 27) (As := [.int _]) h rfl hf (fun _ hx => ct_X5_layerAt _ _ _ hx) ml_X3_50 vw_X5_layerAt rf_X3_readBack_X5_layerAt ⟨Nat.zero_le _, Nat.zero_le _⟩ (Nat.le_of_ble_eq_true rfl) dX3_readBack_24 rfl (fun b4 _ hf => ?_)
      refine j_aload_n (q := 28) h dX3_readBack_27 rfl rfl ?_
      refine j_cVa (q := 31) (As := []) h rfl hf (fun _ hx => ct_X3_here _ _ _ hx) ml_X3_34 vw_X3_here rf_X3_readBack_X3_here ⟨Nat.zero_le _, Nat.zero_le _⟩ (Nat.le_of_ble_eq_true rfl) dX3_readBack_28 rfl (fun b6 _ hf => ?_)
      refine j_aload_n (q := 32) h dX3_readBack_31 rfl rfl ?_
      refine j_cVa (q := 35) (As := []) h rfl hf (fun _ hx => ct_X3_there _ _ _ hx) ml_X3_56 vw_X3_there rf_X3_readBack_X3_there ⟨Nat.zero_le _, Nat.zero_le _⟩ (Nat.le_of_ble_eq_true rfl) dX3_readBack_32 rfl (fun b8 _ hf => ?_)
      refine j_cVi (q := 38) (As := [.ref _, .ref _]) h rfl hf (fun _ hx => ct_X1_takeOff _ _ _ hx) ml_X3_68 vw_X1_takeOff rf_X3_readBack_X1_takeOff ⟨Nat.zero_le _, Nat.zero_le _⟩ (Nat.le_of_ble_eq_true rfl) dX3_readBack_35 rfl (fun _ _ hf => ?_)
      refine j_sI (q := 41) h tyX3 tyX3_ok nmX3 uin_X3 rfl rfl (by decide) rfl rfl (by decide +kernel) fl_X3_31 dX3_readBack_38 rfl hf (fun hf => ?_)
      refine j_aload_n (q := 42) h dX3_readBack_41 rfl rfl ?_
      refine j_gI (q := 45) h uin_X3 rfl rfl (by decide) rfl fl_X3_31 dX3_readBack_42 rfl hf (fun hf => ?_)
      refine j_bipush (q := 47) (-6) h dX3_readBack_45 kb_m6 rfl ?_
      refine j_icmp_eq (q := 50) 52 h dX3_readBack_47 (by decide) rfl hf (fun hf => ?_) (fun hf => ?_)
      · refine j_aload_n (q := 53) h dX3_readBack_52 rfl rfl ?_
        refine j_cVv (q := 56) (As := []) h rfl hf (fun _ hx => ct_X3_step _ _ _ hx) ml_X3_65 vw_X3_step rf_X3_readBack_X3_step ⟨Nat.zero_le _, Nat.zero_le _⟩ (Nat.le_of_ble_eq_true rfl) dX3_readBack_53 rfl (fun _ _ hf => ?_)
        refine j_iinc (q := 59) _ [_, _, _, _] h dX3_readBack_56 rfl (by decide) rfl (kc_m1 _) rfl rfl ?_
        refine j_goto 13 h dX3_readBack_59 (by decide) ?_
        exact j_sub (lsub_s (lsub_s (lsub_s (lsub_s lsub_0)))) (ih _ _ _ _ _ hf)
      · refine j_iload_n (q := 51) h dX3_readBack_50 rfl rfl ?_
        exact j_iret h dX3_readBack_51 hf
set_option maxRecDepth 20000 in
theorem w_X3_readBack_0 {g : GT} {K : KT} {P : PT} {res : Int32 × VT} (h : OK g RX3 cX3_readBack 4 (some .int)) {l0 : Nat} {l1 : Nat} {l2 : Nat} {V : VT} (hf : f_X3_readBack K P l0 l1 l2 V = some res) : J g rm_X3_readBack (QF g (some (.int res.1)) K P res.2 0 0) 4 K P V 0 0 0 [some (.ref l0), some (.ref l1), some (.ref l2), none] [] := by
  rw [f_X3_readBack] at hf
  refine j_aload_n (q := 1) h dX3_readBack_0 rfl rfl ?_
  refine j_bipush (q := 3) (-6) h dX3_readBack_1 kb_m6 rfl ?_
  refine j_sI (q := 6) h tyX3 tyX3_ok nmX3 uin_X3 rfl rfl (by decide) rfl rfl (by decide +kernel) fl_X3_31 dX3_readBack_3 rfl hf (fun hf => ?_)
  refine j_aload_n (q := 7) h dX3_readBack_6 rfl rfl ?_
  refine j_cVi (q := 10) (As := []) h rfl hf (fun _ hx => ct_X4_size _ _ _ hx) ml_X3_42 vw_X4_size rf_X3_readBack_X4_size ⟨Nat.zero_le _, Nat.zero_le _⟩ (Nat.le_of_ble_eq_true rfl) dX3_readBack_7 rfl (fun _ _ hf => ?_)
  refine j_iconst (q := 11) (1) h dX3_readBack_10 ki_1 rfl ?_
  refine j_isub (q := 12) h dX3_readBack_11 rfl ?_
  refine j_istore_n (q := 13) [_, _, _, _] h dX3_readBack_12 rfl (by decide) rfl rfl ?_
  exact j_sub (lsub_s (lsub_s (lsub_s (lsub_s lsub_0)))) (w_X3_readBack_13 h FU _ _ _ _ _ hf)
theorem ct_X3_readBack (l : Launch) (D : va_G) (T : TT) {K : KT} {P : PT} {l0 : Nat} {l1 : Nat} {l2 : Nat} {V : VT} {res : Int32 × VT} (hf : f_X3_readBack K P l0 l1 l2 V = some res) : CT l D T yX3_readBack cX3_readBack 4 (some .int) rm_X3_readBack K P V [.ref l0, .ref l1, .ref l2] (some (.int res.1)) res.2 :=
  fun _ => CT_of pn_X3 (cat_a (cat_a (cat_a cat_0))) (Nat.le_of_ble_eq_true rfl) [some (.ref l0), some (.ref l1), some (.ref l2), none] rfl (fun _ _ _ h => w_X3_readBack_0 h hf)
/-! QuotedLayers$Row.dropLast()V -/
def rm_X4_dropLast : Room := { frames := 0, cells := 0, slots := 0, locals := 0 }
def f_X4_dropLast (K : KT) (P : PT) (l0 : Nat) (V : VT) : Option (Unit × VT) :=
  gI K V l0 2 1 fun x1 => if 0 < x1 then (gI K V l0 2 1 fun x2 => sI K V l0 2 1 (x2 - ((1 : Int32))) fun V3 => some ((), V3)) else (some ((), V))
set_option maxRecDepth 20000 in
theorem w_X4_dropLast_0 {g : GT} {K : KT} {P : PT} {res : Unit × VT} (h : OK g RX4 cX4_dropLast 1 none) {l0 : Nat} {V : VT} (hf : f_X4_dropLast K P l0 V = some res) : J g rm_X4_dropLast (QF g none K P res.2 0 0) 1 K P V 0 0 0 [some (.ref l0)] [] := by
  rw [f_X4_dropLast] at hf
  refine j_aload_n (q := 1) h dX4_dropLast_0 rfl rfl ?_
  refine j_gI (q := 4) h uin_X4 rfl rfl (by decide) rfl fl_X4_9 dX4_dropLast_1 rfl hf (fun hf => ?_)
  refine j_if_le (q := 7) 17 h dX4_dropLast_4 (by decide) rfl hf (fun hf => ?_) (fun hf => ?_)
  · exact j_vret h dX4_dropLast_17 hf
  · refine j_aload_n (q := 8) h dX4_dropLast_7 rfl rfl ?_
    refine j_dup (q := 9) h dX4_dropLast_8 rfl rfl ?_
    refine j_gI (q := 12) h uin_X4 rfl rfl (by decide) rfl fl_X4_9 dX4_dropLast_9 rfl hf (fun hf => ?_)
    refine j_iconst (q := 13) (1) h dX4_dropLast_12 ki_1 rfl ?_
    refine j_isub (q := 14) h dX4_dropLast_13 rfl ?_
    refine j_sI (q := 17) h tyX4 tyX4_ok nmX4 uin_X4 rfl rfl (by decide) rfl rfl (by decide +kernel) fl_X4_9 dX4_dropLast_14 rfl hf (fun hf => ?_)
    exact j_vret h dX4_dropLast_17 hf
theorem ct_X4_dropLast (l : Launch) (D : va_G) (T : TT) {K : KT} {P : PT} {l0 : Nat} {V : VT} {res : Unit × VT} (hf : f_X4_dropLast K P l0 V = some res) : CT l D T yX4_dropLast cX4_dropLast 1 none rm_X4_dropLast K P V [.ref l0] none res.2 :=
  fun _ => CT_of pn_X4 (cat_a cat_0) (Nat.le_of_ble_eq_true rfl) [some (.ref l0)] rfl (fun _ _ _ h => w_X4_dropLast_0 h hf)
/-! QuotedLayers$Row.fillZeros(I)Z -/
def rm_X4_fillZeros : Room := { frames := 1, cells := 0, slots := 0, locals := 21 }
theorem rf_X4_fillZeros_X4_add : RF rm_X4_add rm_X4_fillZeros 2 := ⟨⟨by decide, by decide⟩, rfl, rfl⟩
theorem rf_X4_fillZeros_X4_clear : RF rm_X4_clear rm_X4_fillZeros 1 := ⟨⟨by decide, by decide⟩, rfl, rfl⟩
def f_X4_fillZeros_29 (K : KT) (P : PT) (l0 : Nat) (V : VT) : Option (Int32 × VT) :=
  gI K V l0 2 2 fun x1 => if x1 = 0 then (rB ((1 : Int32)) V) else (rB ((0 : Int32)) V)
def f_X4_fillZeros_6 (K : KT) (P : PT) : Nat → Nat → Int32 → Int32 → VT → Option (Int32 × VT)
  | 0, _, _, _, _ => none
  | n + 1, l0, l1, l2, V => if l2 < l1 then (gI K V l0 2 2 fun x1 => if x1 = 0 then (cV K l0 2 (f_X4_add K P l0 ((0 : Int32)) V) fun u3 V2 => (f_X4_fillZeros_6 K P n) l0 l1 (l2 + (1 : Int32)) V2) else (f_X4_fillZeros_29 K P l0 V)) else (f_X4_fillZeros_29 K P l0 V)
def f_X4_fillZeros (K : KT) (P : PT) (l0 : Nat) (l1 : Int32) (V : VT) : Option (Int32 × VT) :=
  cV K l0 2 (f_X4_clear K P l0 V) fun u2 V1 => f_X4_fillZeros_6 K P FU l0 l1 ((0 : Int32)) V1
set_option maxRecDepth 20000 in
theorem w_X4_fillZeros_29 {g : GT} {K : KT} {P : PT} {res : Int32 × VT} (h : OK g RX4 cX4_fillZeros 3 (some .boolean)) {l0 : Nat} {V : VT} (hf : f_X4_fillZeros_29 K P l0 V = some res) : J g rm_X4_fillZeros (QF g (some (.int res.1)) K P res.2 0 0) 3 K P V 0 0 29 [some (.ref l0), none, none] [] := by
  rw [f_X4_fillZeros_29] at hf
  refine j_aload_n (q := 30) h dX4_fillZeros_29 rfl rfl ?_
  refine j_gI (q := 33) h uin_X4 rfl rfl (by decide) rfl fl_X4_15 dX4_fillZeros_30 rfl hf (fun hf => ?_)
  refine j_if_ne (q := 36) 40 h dX4_fillZeros_33 (by decide) rfl hf (fun hf => ?_) (fun hf => ?_)
  · refine j_iconst (q := 41) (0) h dX4_fillZeros_40 ki_0 rfl ?_
    exact j_zret h dX4_fillZeros_41 hf
  · refine j_iconst (q := 37) (1) h dX4_fillZeros_36 ki_1 rfl ?_
    refine j_goto 41 h dX4_fillZeros_37 (by decide) ?_
    exact j_zret h dX4_fillZeros_41 hf
set_option maxRecDepth 20000 in
theorem w_X4_fillZeros_6 {g : GT} {K : KT} {P : PT} {res : Int32 × VT} (h : OK g RX4 cX4_fillZeros 3 (some .boolean)) : ∀ (n : Nat) (l0 : Nat) (l1 : Int32) (l2 : Int32) (V : VT), f_X4_fillZeros_6 K P n l0 l1 l2 V = some res → J g rm_X4_fillZeros (QF g (some (.int res.1)) K P res.2 0 0) 3 K P V 0 0 6 [some (.ref l0), some (.int l1), some (.int l2)] [] := by
  intro n
  induction n with
  | zero => intro l0 l1 l2 V hf; rw [f_X4_fillZeros_6] at hf; cases hf
  | succ n ih =>
    intro l0 l1 l2 V hf
    rw [f_X4_fillZeros_6] at hf
    refine j_iload_n (q := 7) h dX4_fillZeros_6 rfl rfl ?_
    refine j_iload_n (q := 8) h dX4_fillZeros_7 rfl rfl ?_
    refine j_icmp_ge (q := 11) 29 h dX4_fillZeros_8 (by decide) rfl hf (fun hf => ?_) (fun hf => ?_)
    · exact j_sub (lsub_s (lsub_n (lsub_n lsub_0))) (w_X4_fillZeros_29 h hf)
    · refine j_aload_n (q := 12) h dX4_fillZeros_11 rfl rfl ?_
      refine j_gI (q := 15) h uin_X4 rfl rfl (by decide) rfl fl_X4_15 dX4_fillZeros_12 rfl hf (fun hf => ?_)
      refine j_if_ne (q := 18) 29 h dX4_fillZeros_15 (by decide) rfl hf (fun hf => ?_) (fun hf => ?_)
      · exact j_sub (lsub_s (lsub_n (lsub_n lsub_0))) (w_X4_fillZeros_29 h hf)
      · refine j_aload_n (q := 19) h dX4_fillZeros_18 rfl rfl ?_
        refine j_iconst (q := 20) (0) h dX4_fillZeros_19 ki_0 rfl ?_
        refine j_cVv (q := 23) (As := [.int _]) h rfl hf (fun _ hx => ct_X4_add _ _ _ hx) ml_X4_38 vw_X4_add rf_X4_fillZeros_X4_add ⟨Nat.zero_le _, Nat.zero_le _⟩ (Nat.le_of_ble_eq_true rfl) dX4_fillZeros_20 rfl (fun _ _ hf => ?_)
        refine j_iinc (q := 26) _ [_, _, _] h dX4_fillZeros_23 rfl (by decide) rfl (kc_1 _) rfl rfl ?_
        refine j_goto 6 h dX4_fillZeros_26 (by decide) ?_
        exact j_sub (lsub_s (lsub_s (lsub_s lsub_0))) (ih _ _ _ _ hf)
set_option maxRecDepth 20000 in
theorem w_X4_fillZeros_0 {g : GT} {K : KT} {P : PT} {res : Int32 × VT} (h : OK g RX4 cX4_fillZeros 3 (some .boolean)) {l0 : Nat} {l1 : Int32} {V : VT} (hf : f_X4_fillZeros K P l0 l1 V = some res) : J g rm_X4_fillZeros (QF g (some (.int res.1)) K P res.2 0 0) 3 K P V 0 0 0 [some (.ref l0), some (.int l1), none] [] := by
  rw [f_X4_fillZeros] at hf
  refine j_aload_n (q := 1) h dX4_fillZeros_0 rfl rfl ?_
  refine j_cVv (q := 4) (As := []) h rfl hf (fun _ hx => ct_X4_clear _ _ _ hx) ml_X4_31 vw_X4_clear rf_X4_fillZeros_X4_clear ⟨Nat.zero_le _, Nat.zero_le _⟩ (Nat.le_of_ble_eq_true rfl) dX4_fillZeros_1 rfl (fun _ _ hf => ?_)
  refine j_iconst (q := 5) (0) h dX4_fillZeros_4 ki_0 rfl ?_
  refine j_istore_n (q := 6) [_, _, _] h dX4_fillZeros_5 rfl (by decide) rfl rfl ?_
  exact j_sub (lsub_s (lsub_s (lsub_s lsub_0))) (w_X4_fillZeros_6 h FU _ _ _ _ hf)
theorem ct_X4_fillZeros (l : Launch) (D : va_G) (T : TT) {K : KT} {P : PT} {l0 : Nat} {l1 : Int32} {V : VT} {res : Int32 × VT} (hf : f_X4_fillZeros K P l0 l1 V = some res) : CT l D T yX4_fillZeros cX4_fillZeros 3 (some .boolean) rm_X4_fillZeros K P V [.ref l0, .int l1] (some (.int res.1)) res.2 :=
  fun _ => CT_of pn_X4 (cat_a (cat_i cat_0)) (Nat.le_of_ble_eq_true rfl) [some (.ref l0), some (.int l1), none] rfl (fun _ _ _ h => w_X4_fillZeros_0 h hf)
/-! QuotedLayers$Row.sameAs(LQuotedLayers$Row;)Z -/
def rm_X4_sameAs : Room := { frames := 1, cells := 0, slots := 0, locals := 21 }
theorem rf_X4_sameAs_X4_at : RF rm_X4_at rm_X4_sameAs 2 := ⟨⟨by decide, by decide⟩, rfl, rfl⟩
theorem rf_X4_sameAs_X4_size : RF rm_X4_size rm_X4_sameAs 1 := ⟨⟨by decide, by decide⟩, rfl, rfl⟩
def f_X4_sameAs_15 (K : KT) (P : PT) : Nat → Nat → Nat → Int32 → VT → Option (Int32 × VT)
  | 0, _, _, _, _ => none
  | n + 1, l0, l1, l2, V => gI K V l0 2 1 fun x1 => if l2 < x1 then (cV K l0 2 (f_X4_at K P l0 l2 V) fun x3 V2 => cV K l1 2 (f_X4_at K P l1 l2 V2) fun x5 V4 => if x3 = x5 then ((f_X4_sameAs_15 K P n) l0 l1 (l2 + (1 : Int32)) V4) else (rB ((0 : Int32)) V4)) else (rB ((1 : Int32)) V)
def f_X4_sameAs (K : KT) (P : PT) (l0 : Nat) (l1 : Nat) (V : VT) : Option (Int32 × VT) :=
  gI K V l0 2 1 fun x1 => cV K l1 2 (f_X4_size K P l1 V) fun x3 V2 => if x1 = x3 then (f_X4_sameAs_15 K P FU l0 l1 ((0 : Int32)) V2) else (rB ((0 : Int32)) V2)
set_option maxRecDepth 20000 in
theorem w_X4_sameAs_15 {g : GT} {K : KT} {P : PT} {res : Int32 × VT} (h : OK g RX4 cX4_sameAs 3 (some .boolean)) : ∀ (n : Nat) (l0 : Nat) (l1 : Nat) (l2 : Int32) (V : VT), f_X4_sameAs_15 K P n l0 l1 l2 V = some res → J g rm_X4_sameAs (QF g (some (.int res.1)) K P res.2 0 0) 3 K P V 0 0 15 [some (.ref l0), some (.ref l1), some (.int l2)] [] := by
  intro n
  induction n with
  | zero => intro l0 l1 l2 V hf; rw [f_X4_sameAs_15] at hf; cases hf
  | succ n ih =>
    intro l0 l1 l2 V hf
    rw [f_X4_sameAs_15] at hf
    refine j_iload_n (q := 16) h dX4_sameAs_15 rfl rfl ?_
    refine j_aload_n (q := 17) h dX4_sameAs_16 rfl rfl ?_
    refine j_gI (q := 20) h uin_X4 rfl rfl (by decide) rfl fl_X4_9 dX4_sameAs_17 rfl hf (fun hf => ?_)
    refine j_icmp_ge (q := 23) 44 h dX4_sameAs_20 (by decide) rfl hf (fun hf => ?_) (fun hf => ?_)
    · refine j_iconst (q := 45) (1) h dX4_sameAs_44 ki_1 rfl ?_
      exact j_zret h dX4_sameAs_45 hf
    · refine j_aload_n (q := 24) h dX4_sameAs_23 rfl rfl ?_
      refine j_iload_n (q := 25) h dX4_sameAs_24 rfl rfl ?_
      refine j_cVi (q := 28) (As := [.int _]) h rfl hf (fun _ hx => ct_X4_at _ _ _ hx) ml_X4_34 vw_X4_at rf_X4_sameAs_X4_at ⟨Nat.zero_le _, Nat.zero_le _⟩ (Nat.le_of_ble_eq_true rfl) dX4_sameAs_25 rfl (fun _ _ hf => ?_)
      refine j_aload_n (q := 29) h dX4_sameAs_28 rfl rfl ?_
      refine j_iload_n (q := 30) h dX4_sameAs_29 rfl rfl ?_
      refine j_cVi (q := 33) (As := [.int _]) h rfl hf (fun _ hx => ct_X4_at _ _ _ hx) ml_X4_34 vw_X4_at rf_X4_sameAs_X4_at ⟨Nat.zero_le _, Nat.zero_le _⟩ (Nat.le_of_ble_eq_true rfl) dX4_sameAs_30 rfl (fun _ _ hf => ?_)
      refine j_icmp_eq (q := 36) 38 h dX4_sameAs_33 (by decide) rfl hf (fun hf => ?_) (fun hf => ?_)
      · refine j_iinc (q := 41) _ [_, _, _] h dX4_sameAs_38 rfl (by decide) rfl (kc_1 _) rfl rfl ?_
        refine j_goto 15 h dX4_sameAs_41 (by decide) ?_
        exact j_sub (lsub_s (lsub_s (lsub_s lsub_0))) (ih _ _ _ _ hf)
      · refine j_iconst (q := 37) (0) h dX4_sameAs_36 ki_0 rfl ?_
        exact j_zret h dX4_sameAs_37 hf
set_option maxRecDepth 20000 in
theorem w_X4_sameAs_0 {g : GT} {K : KT} {P : PT} {res : Int32 × VT} (h : OK g RX4 cX4_sameAs 3 (some .boolean)) {l0 : Nat} {l1 : Nat} {V : VT} (hf : f_X4_sameAs K P l0 l1 V = some res) : J g rm_X4_sameAs (QF g (some (.int res.1)) K P res.2 0 0) 3 K P V 0 0 0 [some (.ref l0), some (.ref l1), none] [] := by
  rw [f_X4_sameAs] at hf
  refine j_aload_n (q := 1) h dX4_sameAs_0 rfl rfl ?_
  refine j_gI (q := 4) h uin_X4 rfl rfl (by decide) rfl fl_X4_9 dX4_sameAs_1 rfl hf (fun hf => ?_)
  refine j_aload_n (q := 5) h dX4_sameAs_4 rfl rfl ?_
  refine j_cVi (q := 8) (As := []) h rfl hf (fun _ hx => ct_X4_size _ _ _ hx) ml_X4_23 vw_X4_size rf_X4_sameAs_X4_size ⟨Nat.zero_le _, Nat.zero_le _⟩ (Nat.le_of_ble_eq_true rfl) dX4_sameAs_5 rfl (fun _ _ hf => ?_)
  refine j_icmp_eq (q := 11) 13 h dX4_sameAs_8 (by decide) rfl hf (fun hf => ?_) (fun hf => ?_)
  · refine j_iconst (q := 14) (0) h dX4_sameAs_13 ki_0 rfl ?_
    refine j_istore_n (q := 15) [_, _, _] h dX4_sameAs_14 rfl (by decide) rfl rfl ?_
    exact j_sub (lsub_s (lsub_s (lsub_s lsub_0))) (w_X4_sameAs_15 h FU _ _ _ _ hf)
  · refine j_iconst (q := 12) (0) h dX4_sameAs_11 ki_0 rfl ?_
    exact j_zret h dX4_sameAs_12 hf
theorem ct_X4_sameAs (l : Launch) (D : va_G) (T : TT) {K : KT} {P : PT} {l0 : Nat} {l1 : Nat} {V : VT} {res : Int32 × VT} (hf : f_X4_sameAs K P l0 l1 V = some res) : CT l D T yX4_sameAs cX4_sameAs 3 (some .boolean) rm_X4_sameAs K P V [.ref l0, .ref l1] (some (.int res.1)) res.2 :=
  fun _ => CT_of pn_X4 (cat_a (cat_a cat_0)) (Nat.le_of_ble_eq_true rfl) [some (.ref l0), some (.ref l1), none] rfl (fun _ _ _ h => w_X4_sameAs_0 h hf)
/-! QuotedLayers$Stand.copyFrom(LQuotedLayers$Stand;)V -/
def rm_X5_copyFrom : Room := { frames := 4, cells := 0, slots := 0, locals := 86 }
theorem rf_X5_copyFrom_X1_copyFrom : RF rm_X1_copyFrom rm_X5_copyFrom 2 := ⟨⟨by decide, by decide⟩, rfl, rfl⟩
theorem rf_X5_copyFrom_X4_copyFrom : RF rm_X4_copyFrom rm_X5_copyFrom 2 := ⟨⟨by decide, by decide⟩, rfl, rfl⟩
theorem rf_X5_copyFrom_X5_layerAt : RF rm_X5_layerAt rm_X5_copyFrom 2 := ⟨⟨by decide, by decide⟩, rfl, rfl⟩
def f_X5_copyFrom_2 (K : KT) (P : PT) : Nat → Nat → Nat → Int32 → VT → Option (Unit × VT)
  | 0, _, _, _, _ => none
  | n + 1, l0, l1, l2, V => if l2 < ((5 : Int32)) then (cV K l0 3 (f_X5_layerAt K P l0 l2 V) fun b10 V9 => cV K l1 3 (f_X5_layerAt K P l1 l2 V9) fun b12 V11 => cV K b10 0 (f_X1_copyFrom K P b10 b12 V11) fun u14 V13 => (f_X5_copyFrom_2 K P n) l0 l1 (l2 + (1 : Int32)) V13) else (gR K P l0 3 2 fun b1 => gR K P l1 3 2 fun b2 => cV K b1 2 (f_X4_copyFrom K P b1 b2 V) fun u4 V3 => gR K P l0 3 3 fun b5 => gR K P l1 3 3 fun b6 => cV K b5 2 (f_X4_copyFrom K P b5 b6 V3) fun u8 V7 => some ((), V7))
def f_X5_copyFrom (K : KT) (P : PT) (l0 : Nat) (l1 : Nat) (V : VT) : Option (Unit × VT) :=
  f_X5_copyFrom_2 K P FU l0 l1 ((0 : Int32)) V
set_option maxRecDepth 20000 in
theorem w_X5_copyFrom_2 {g : GT} {K : KT} {P : PT} {res : Unit × VT} (h : OK g RX5 cX5_copyFrom 3 none) : ∀ (n : Nat) (l0 : Nat) (l1 : Nat) (l2 : Int32) (V : VT), f_X5_copyFrom_2 K P n l0 l1 l2 V = some res → J g rm_X5_copyFrom (QF g none K P res.2 0 0) 3 K P V 0 0 2 [some (.ref l0), some (.ref l1), some (.int l2)] [] := by
  intro n
  induction n with
  | zero => intro l0 l1 l2 V hf; rw [f_X5_copyFrom_2] at hf; cases hf
  | succ n ih =>
    intro l0 l1 l2 V hf
    rw [f_X5_copyFrom_2] at hf
    refine j_iload_n (q := 3) h dX5_copyFrom_2 rfl rfl ?_
    refine j_iconst (q := 4) (5) h dX5_copyFrom_3 ki_5 rfl ?_
    refine j_icmp_ge (q := 7) 26 h dX5_copyFrom_4 (by decide) rfl hf (fun hf => ?_) (fun hf => ?_)
    · refine j_aload_n (q := 27) h dX5_copyFrom_26 rfl rfl ?_
      refine j_gR (q := 30) h uin_X5 rfl rfl (by decide) rfl fl_X5_27 dX5_copyFrom_27 rfl hf (fun b1 hf => ?_)
      refine j_aload_n (q := 31) h dX5_copyFrom_30 rfl rfl ?_
      refine j_gR (q := 34) h uin_X5 rfl rfl (by decide) rfl fl_X5_27 dX5_copyFrom_31 rfl hf (fun b2 hf => ?_)
      refine j_cVv (q := 37) (As := [.ref _]) h rfl hf (fun _ hx => ct_X4_copyFrom _ _ _ hx) ml_X5_49 vw_X4_copyFrom rf_X5_copyFrom_X4_copyFrom ⟨Nat.zero_le _, Nat.zero_le _⟩ (Nat.le_of_ble_eq_true rfl) dX5_copyFrom_34 rfl (fun _ _ hf => ?_)
      refine j_aload_n (q := 38) h dX5_copyFrom_37 rfl rfl ?_
      refine j_gR (q := 41) h uin_X5 rfl rfl (by decide) rfl fl_X5_31 dX5_copyFrom_38 rfl hf (fun b5 hf => ?_)
      refine j_aload_n (q := 42) h dX5_copyFrom_41 rfl rfl ?_
      refine j_gR (q := 45) h uin_X5 rfl rfl (by decide) rfl fl_X5_31 dX5_copyFrom_42 rfl hf (fun b6 hf => ?_)
      refine j_cVv (q := 48) (As := [.ref _]) h rfl hf (fun _ hx => ct_X4_copyFrom _ _ _ hx) ml_X5_49 vw_X4_copyFrom rf_X5_copyFrom_X4_copyFrom ⟨Nat.zero_le _, Nat.zero_le _⟩ (Nat.le_of_ble_eq_true rfl) dX5_copyFrom_45 rfl (fun _ _ hf => ?_)
      exact j_vret h dX5_copyFrom_48 hf
    · refine j_aload_n (q := 8) h dX5_copyFrom_7 rfl rfl ?_
      refine j_iload_n (q := 9) h dX5_copyFrom_8 rfl rfl ?_
      refine j_cVa (q := 12) (As := [.int _]) h rfl hf (fun _ hx => ct_X5_layerAt _ _ _ hx) ml_X5_41 vw_X5_layerAt rf_X5_copyFrom_X5_layerAt ⟨Nat.zero_le _, Nat.zero_le _⟩ (Nat.le_of_ble_eq_true rfl) dX5_copyFrom_9 rfl (fun b10 _ hf => ?_)
      refine j_aload_n (q := 13) h dX5_copyFrom_12 rfl rfl ?_
      refine j_iload_n (q := 14) h dX5_copyFrom_13 rfl rfl ?_
      refine j_cVa (q := 17) (As := [.int _]) h rfl hf (fun _ hx => ct_X5_layerAt _ _ _ hx) ml_X5_41 vw_X5_layerAt rf_X5_copyFrom_X5_layerAt ⟨Nat.zero_le _, Nat.zero_le _⟩ (Nat.le_of_ble_eq_true rfl) dX5_copyFrom_14 rfl (fun b12 _ hf => ?_)
      refine j_cVv (q := 20) (As := [.ref _]) h rfl hf (fun _ hx => ct_X1_copyFrom _ _ _ hx) ml_X5_45 vw_X1_copyFrom rf_X5_copyFrom_X1_copyFrom ⟨Nat.zero_le _, Nat.zero_le _⟩ (Nat.le_of_ble_eq_true rfl) dX5_copyFrom_17 rfl (fun _ _ hf => ?_)
      refine j_iinc (q := 23) _ [_, _, _] h dX5_copyFrom_20 rfl (by decide) rfl (kc_1 _) rfl rfl ?_
      refine j_goto 2 h dX5_copyFrom_23 (by decide) ?_
      exact j_sub (lsub_s (lsub_s (lsub_s lsub_0))) (ih _ _ _ _ hf)
set_option maxRecDepth 20000 in
theorem w_X5_copyFrom_0 {g : GT} {K : KT} {P : PT} {res : Unit × VT} (h : OK g RX5 cX5_copyFrom 3 none) {l0 : Nat} {l1 : Nat} {V : VT} (hf : f_X5_copyFrom K P l0 l1 V = some res) : J g rm_X5_copyFrom (QF g none K P res.2 0 0) 3 K P V 0 0 0 [some (.ref l0), some (.ref l1), none] [] := by
  rw [f_X5_copyFrom] at hf
  refine j_iconst (q := 1) (0) h dX5_copyFrom_0 ki_0 rfl ?_
  refine j_istore_n (q := 2) [_, _, _] h dX5_copyFrom_1 rfl (by decide) rfl rfl ?_
  exact j_sub (lsub_s (lsub_s (lsub_s lsub_0))) (w_X5_copyFrom_2 h FU _ _ _ _ hf)
theorem ct_X5_copyFrom (l : Launch) (D : va_G) (T : TT) {K : KT} {P : PT} {l0 : Nat} {l1 : Nat} {V : VT} {res : Unit × VT} (hf : f_X5_copyFrom K P l0 l1 V = some res) : CT l D T yX5_copyFrom cX5_copyFrom 3 none rm_X5_copyFrom K P V [.ref l0, .ref l1] none res.2 :=
  fun _ => CT_of pn_X5 (cat_a (cat_a cat_0)) (Nat.le_of_ble_eq_true rfl) [some (.ref l0), some (.ref l1), none] rfl (fun _ _ _ h => w_X5_copyFrom_0 h hf)
/-! QuotedLayers.say(I)I -/
def rm_X6_say : Room := { frames := 1, cells := 0, slots := 0, locals := 21 }
theorem rf_X6_say_X4_add : RF rm_X4_add rm_X6_say 2 := ⟨⟨by decide, by decide⟩, rfl, rfl⟩
theorem rf_X6_say_X4_size : RF rm_X4_size rm_X6_say 1 := ⟨⟨by decide, by decide⟩, rfl, rfl⟩
theorem rf_X6_say_X6_isSign : RF rm_X6_isSign rm_X6_say 1 := ⟨⟨by decide, by decide⟩, rfl, rfl⟩
def f_X6_say (K : KT) (P : PT) (l0 : Nat) (l1 : Int32) (V : VT) : Option (Int32 × VT) :=
  cS (f_X6_isSign K P l1 V) fun x2 V1 => if x2 = 0 then (some ((-2 : Int32), V1)) else (gR K P l0 4 0 fun b3 => cV K b3 2 (f_X4_size K P b3 V1) fun x5 V4 => if x5 < ((60 : Int32)) then (gR K P l0 4 0 fun b6 => cV K b6 2 (f_X4_add K P b6 l1 V4) fun u8 V7 => gR K P l0 4 0 fun b9 => cV K b9 2 (f_X4_size K P b9 V7) fun x11 V10 => some (x11, V10)) else (some ((-4 : Int32), V4)))
set_option maxRecDepth 20000 in
theorem w_X6_say_0 {g : GT} {K : KT} {P : PT} {res : Int32 × VT} (h : OK g RX6 cX6_say 2 (some .int)) {l0 : Nat} {l1 : Int32} {V : VT} (hf : f_X6_say K P l0 l1 V = some res) : J g rm_X6_say (QF g (some (.int res.1)) K P res.2 0 0) 2 K P V 0 0 0 [some (.ref l0), some (.int l1)] [] := by
  rw [f_X6_say] at hf
  refine j_iload_n (q := 1) h dX6_say_0 rfl rfl ?_
  refine j_cSi (q := 4) (As := [.int _]) h rfl hf (fun _ hx => ct_X6_isSign _ _ _ hx) ml_X6_50 sw_X6_isSign rf_X6_say_X6_isSign ⟨Nat.zero_le _, Nat.zero_le _⟩ (Nat.le_of_ble_eq_true rfl) dX6_say_1 rfl (fun _ _ hf => ?_)
  refine j_if_ne (q := 7) 10 h dX6_say_4 (by decide) rfl hf (fun hf => ?_) (fun hf => ?_)
  · refine j_aload_n (q := 11) h dX6_say_10 rfl rfl ?_
    refine j_gR (q := 14) h uin_X6 rfl rfl (by decide) rfl fl_X6_14 dX6_say_11 rfl hf (fun b3 hf => ?_)
    refine j_cVi (q := 17) (As := []) h rfl hf (fun _ hx => ct_X4_size _ _ _ hx) ml_X6_54 vw_X4_size rf_X6_say_X4_size ⟨Nat.zero_le _, Nat.zero_le _⟩ (Nat.le_of_ble_eq_true rfl) dX6_say_14 rfl (fun _ _ hf => ?_)
    refine j_bipush (q := 19) (60) h dX6_say_17 kb_60 rfl ?_
    refine j_icmp_lt (q := 22) 25 h dX6_say_19 (by decide) rfl hf (fun hf => ?_) (fun hf => ?_)
    · refine j_aload_n (q := 26) h dX6_say_25 rfl rfl ?_
      refine j_gR (q := 29) h uin_X6 rfl rfl (by decide) rfl fl_X6_14 dX6_say_26 rfl hf (fun b6 hf => ?_)
      refine j_iload_n (q := 30) h dX6_say_29 rfl rfl ?_
      refine j_cVv (q := 33) (As := [.int _]) h rfl hf (fun _ hx => ct_X4_add _ _ _ hx) ml_X6_58 vw_X4_add rf_X6_say_X4_add ⟨Nat.zero_le _, Nat.zero_le _⟩ (Nat.le_of_ble_eq_true rfl) dX6_say_30 rfl (fun _ _ hf => ?_)
      refine j_aload_n (q := 34) h dX6_say_33 rfl rfl ?_
      refine j_gR (q := 37) h uin_X6 rfl rfl (by decide) rfl fl_X6_14 dX6_say_34 rfl hf (fun b9 hf => ?_)
      refine j_cVi (q := 40) (As := []) h rfl hf (fun _ hx => ct_X4_size _ _ _ hx) ml_X6_54 vw_X4_size rf_X6_say_X4_size ⟨Nat.zero_le _, Nat.zero_le _⟩ (Nat.le_of_ble_eq_true rfl) dX6_say_37 rfl (fun _ _ hf => ?_)
      exact j_iret h dX6_say_40 hf
    · refine j_bipush (q := 24) (-4) h dX6_say_22 kb_m4 rfl ?_
      exact j_iret h dX6_say_24 hf
  · refine j_bipush (q := 9) (-2) h dX6_say_7 kb_m2 rfl ?_
    exact j_iret h dX6_say_9 hf
theorem ct_X6_say (l : Launch) (D : va_G) (T : TT) {K : KT} {P : PT} {l0 : Nat} {l1 : Int32} {V : VT} {res : Int32 × VT} (hf : f_X6_say K P l0 l1 V = some res) : CT l D T yX6_say cX6_say 2 (some .int) rm_X6_say K P V [.ref l0, .int l1] (some (.int res.1)) res.2 :=
  fun _ => CT_of pn_X6 (cat_a (cat_i cat_0)) (Nat.le_of_ble_eq_true rfl) [some (.ref l0), some (.int l1)] rfl (fun _ _ _ h => w_X6_say_0 h hf)
/-! QuotedLayers.wipe()I -/
def rm_X6_wipe : Room := { frames := 1, cells := 0, slots := 0, locals := 20 }
theorem rf_X6_wipe_X4_clear : RF rm_X4_clear rm_X6_wipe 1 := ⟨⟨by decide, by decide⟩, rfl, rfl⟩
theorem rf_X6_wipe_X4_size : RF rm_X4_size rm_X6_wipe 1 := ⟨⟨by decide, by decide⟩, rfl, rfl⟩
def f_X6_wipe (K : KT) (P : PT) (l0 : Nat) (V : VT) : Option (Int32 × VT) :=
  gR K P l0 4 0 fun b1 => cV K b1 2 (f_X4_size K P b1 V) fun x3 V2 => gR K P l0 4 0 fun b4 => cV K b4 2 (f_X4_clear K P b4 V2) fun u6 V5 => some (x3, V5)
set_option maxRecDepth 20000 in
theorem w_X6_wipe_0 {g : GT} {K : KT} {P : PT} {res : Int32 × VT} (h : OK g RX6 cX6_wipe 2 (some .int)) {l0 : Nat} {V : VT} (hf : f_X6_wipe K P l0 V = some res) : J g rm_X6_wipe (QF g (some (.int res.1)) K P res.2 0 0) 2 K P V 0 0 0 [some (.ref l0), none] [] := by
  rw [f_X6_wipe] at hf
  refine j_aload_n (q := 1) h dX6_wipe_0 rfl rfl ?_
  refine j_gR (q := 4) h uin_X6 rfl rfl (by decide) rfl fl_X6_14 dX6_wipe_1 rfl hf (fun b1 hf => ?_)
  refine j_cVi (q := 7) (As := []) h rfl hf (fun _ hx => ct_X4_size _ _ _ hx) ml_X6_54 vw_X4_size rf_X6_wipe_X4_size ⟨Nat.zero_le _, Nat.zero_le _⟩ (Nat.le_of_ble_eq_true rfl) dX6_wipe_4 rfl (fun _ _ hf => ?_)
  refine j_istore_n (q := 8) [_, _] h dX6_wipe_7 rfl (by decide) rfl rfl ?_
  refine j_aload_n (q := 9) h dX6_wipe_8 rfl rfl ?_
  refine j_gR (q := 12) h uin_X6 rfl rfl (by decide) rfl fl_X6_14 dX6_wipe_9 rfl hf (fun b4 hf => ?_)
  refine j_cVv (q := 15) (As := []) h rfl hf (fun _ hx => ct_X4_clear _ _ _ hx) ml_X6_61 vw_X4_clear rf_X6_wipe_X4_clear ⟨Nat.zero_le _, Nat.zero_le _⟩ (Nat.le_of_ble_eq_true rfl) dX6_wipe_12 rfl (fun _ _ hf => ?_)
  refine j_iload_n (q := 16) h dX6_wipe_15 rfl rfl ?_
  exact j_iret h dX6_wipe_16 hf
theorem ct_X6_wipe (l : Launch) (D : va_G) (T : TT) {K : KT} {P : PT} {l0 : Nat} {V : VT} {res : Int32 × VT} (hf : f_X6_wipe K P l0 V = some res) : CT l D T yX6_wipe cX6_wipe 2 (some .int) rm_X6_wipe K P V [.ref l0] (some (.int res.1)) res.2 :=
  fun _ => CT_of pn_X6 (cat_a cat_0) (Nat.le_of_ble_eq_true rfl) [some (.ref l0), none] rfl (fun _ _ _ h => w_X6_wipe_0 h hf)
/-! QuotedLayers.fault()I -/
def rm_X6_fault : Room := { frames := 4, cells := 0, slots := 0, locals := 86 }
theorem rf_X6_fault_X2_faultIn : RF rm_X2_faultIn rm_X6_fault 5 := ⟨⟨by decide, by decide⟩, rfl, rfl⟩
def f_X6_fault (K : KT) (P : PT) (l0 : Nat) (V : VT) : Option (Int32 × VT) :=
  gR K P l0 4 0 fun b1 => cS (f_X2_faultIn K P b1 V) fun x3 V2 => some (x3, V2)
set_option maxRecDepth 20000 in
theorem w_X6_fault_0 {g : GT} {K : KT} {P : PT} {res : Int32 × VT} (h : OK g RX6 cX6_fault 1 (some .int)) {l0 : Nat} {V : VT} (hf : f_X6_fault K P l0 V = some res) : J g rm_X6_fault (QF g (some (.int res.1)) K P res.2 0 0) 1 K P V 0 0 0 [some (.ref l0)] [] := by
  rw [f_X6_fault] at hf
  refine j_aload_n (q := 1) h dX6_fault_0 rfl rfl ?_
  refine j_gR (q := 4) h uin_X6 rfl rfl (by decide) rfl fl_X6_14 dX6_fault_1 rfl hf (fun b1 hf => ?_)
  refine j_cSi (q := 7) (As := [.ref _]) h rfl hf (fun _ hx => ct_X2_faultIn _ _ _ hx) ml_X6_64 sw_X2_faultIn rf_X6_fault_X2_faultIn ⟨Nat.zero_le _, Nat.zero_le _⟩ (Nat.le_of_ble_eq_true rfl) dX6_fault_4 rfl (fun _ _ hf => ?_)
  exact j_iret h dX6_fault_7 hf
theorem ct_X6_fault (l : Launch) (D : va_G) (T : TT) {K : KT} {P : PT} {l0 : Nat} {V : VT} {res : Int32 × VT} (hf : f_X6_fault K P l0 V = some res) : CT l D T yX6_fault cX6_fault 1 (some .int) rm_X6_fault K P V [.ref l0] (some (.int res.1)) res.2 :=
  fun _ => CT_of pn_X6 (cat_a cat_0) (Nat.le_of_ble_eq_true rfl) [some (.ref l0)] rfl (fun _ _ _ h => w_X6_fault_0 h hf)
/-! QuotedLayers.isLayer(I)Z -/
def rm_X6_isLayer : Room := { frames := 0, cells := 0, slots := 0, locals := 0 }
def f_X6_isLayer (K : KT) (P : PT) (l0 : Int32) (V : VT) : Option (Int32 × VT) :=
  if l0 < 0 then (rB ((0 : Int32)) V) else (if l0 < ((5 : Int32)) then (rB ((1 : Int32)) V) else (rB ((0 : Int32)) V))
set_option maxRecDepth 20000 in
theorem w_X6_isLayer_0 {g : GT} {K : KT} {P : PT} {res : Int32 × VT} (h : OK g RX6 cX6_isLayer 1 (some .boolean)) {l0 : Int32} {V : VT} (hf : f_X6_isLayer K P l0 V = some res) : J g rm_X6_isLayer (QF g (some (.int res.1)) K P res.2 0 0) 1 K P V 0 0 0 [some (.int l0)] [] := by
  rw [f_X6_isLayer] at hf
  refine j_iload_n (q := 1) h dX6_isLayer_0 rfl rfl ?_
  refine j_if_lt (q := 4) 13 h dX6_isLayer_1 (by decide) rfl hf (fun hf => ?_) (fun hf => ?_)
  · refine j_iconst (q := 14) (0) h dX6_isLayer_13 ki_0 rfl ?_
    exact j_zret h dX6_isLayer_14 hf
  · refine j_iload_n (q := 5) h dX6_isLayer_4 rfl rfl ?_
    refine j_iconst (q := 6) (5) h dX6_isLayer_5 ki_5 rfl ?_
    refine j_icmp_ge (q := 9) 13 h dX6_isLayer_6 (by decide) rfl hf (fun hf => ?_) (fun hf => ?_)
    · refine j_iconst (q := 14) (0) h dX6_isLayer_13 ki_0 rfl ?_
      exact j_zret h dX6_isLayer_14 hf
    · refine j_iconst (q := 10) (1) h dX6_isLayer_9 ki_1 rfl ?_
      refine j_goto 14 h dX6_isLayer_10 (by decide) ?_
      exact j_zret h dX6_isLayer_14 hf
theorem ct_X6_isLayer (l : Launch) (D : va_G) (T : TT) {K : KT} {P : PT} {l0 : Int32} {V : VT} {res : Int32 × VT} (hf : f_X6_isLayer K P l0 V = some res) : CT l D T yX6_isLayer cX6_isLayer 1 (some .boolean) rm_X6_isLayer K P V [.int l0] (some (.int res.1)) res.2 :=
  fun _ => CT_of pn_X6 (cat_i cat_0) (Nat.le_of_ble_eq_true rfl) [some (.int l0)] rfl (fun _ _ _ h => w_X6_isLayer_0 h hf)
/-! QuotedLayers.layer(I)I -/
def rm_X6_layer : Room := { frames := 4, cells := 0, slots := 0, locals := 86 }
theorem rf_X6_layer_X1_become : RF rm_X1_become rm_X6_layer 3 := ⟨⟨by decide, by decide⟩, rfl, rfl⟩
theorem rf_X6_layer_X1_heldCount : RF rm_X1_heldCount rm_X6_layer 1 := ⟨⟨by decide, by decide⟩, rfl, rfl⟩
theorem rf_X6_layer_X2_faultIn : RF rm_X2_faultIn rm_X6_layer 5 := ⟨⟨by decide, by decide⟩, rfl, rfl⟩
theorem rf_X6_layer_X4_clear : RF rm_X4_clear rm_X6_layer 1 := ⟨⟨by decide, by decide⟩, rfl, rfl⟩
theorem rf_X6_layer_X5_layerAt : RF rm_X5_layerAt rm_X6_layer 2 := ⟨⟨by decide, by decide⟩, rfl, rfl⟩
theorem rf_X6_layer_X6_isLayer : RF rm_X6_isLayer rm_X6_layer 1 := ⟨⟨by decide, by decide⟩, rfl, rfl⟩
def f_X6_layer (K : KT) (P : PT) (l0 : Nat) (l1 : Int32) (V : VT) : Option (Int32 × VT) :=
  cS (f_X6_isLayer K P l1 V) fun x2 V1 => if x2 = 0 then (some ((-1 : Int32), V1)) else (gR K P l0 4 0 fun b3 => cS (f_X2_faultIn K P b3 V1) fun x5 V4 => if x5 = ((-6 : Int32)) then (gR K P l0 4 1 fun b6 => cV K b6 3 (f_X5_layerAt K P b6 l1 V4) fun b8 V7 => gR K P l0 4 0 fun b9 => cV K b8 0 (f_X1_become K P b8 b9 V7) fun u11 V10 => gR K P l0 4 0 fun b12 => cV K b12 2 (f_X4_clear K P b12 V10) fun u14 V13 => cV K b8 0 (f_X1_heldCount K P b8 V13) fun x16 V15 => some (x16, V15)) else (some ((-5 : Int32), V4)))
set_option maxRecDepth 20000 in
theorem w_X6_layer_0 {g : GT} {K : KT} {P : PT} {res : Int32 × VT} (h : OK g RX6 cX6_layer 3 (some .int)) {l0 : Nat} {l1 : Int32} {V : VT} (hf : f_X6_layer K P l0 l1 V = some res) : J g rm_X6_layer (QF g (some (.int res.1)) K P res.2 0 0) 3 K P V 0 0 0 [some (.ref l0), some (.int l1), none] [] := by
  rw [f_X6_layer] at hf
  refine j_iload_n (q := 1) h dX6_layer_0 rfl rfl ?_
  refine j_cSi (q := 4) (As := [.int _]) h rfl hf (fun _ hx => ct_X6_isLayer _ _ _ hx) ml_X6_70 sw_X6_isLayer rf_X6_layer_X6_isLayer ⟨Nat.zero_le _, Nat.zero_le _⟩ (Nat.le_of_ble_eq_true rfl) dX6_layer_1 rfl (fun _ _ hf => ?_)
  refine j_if_ne (q := 7) 9 h dX6_layer_4 (by decide) rfl hf (fun hf => ?_) (fun hf => ?_)
  · refine j_aload_n (q := 10) h dX6_layer_9 rfl rfl ?_
    refine j_gR (q := 13) h uin_X6 rfl rfl (by decide) rfl fl_X6_14 dX6_layer_10 rfl hf (fun b3 hf => ?_)
    refine j_cSi (q := 16) (As := [.ref _]) h rfl hf (fun _ hx => ct_X2_faultIn _ _ _ hx) ml_X6_64 sw_X2_faultIn rf_X6_layer_X2_faultIn ⟨Nat.zero_le _, Nat.zero_le _⟩ (Nat.le_of_ble_eq_true rfl) dX6_layer_13 rfl (fun _ _ hf => ?_)
    refine j_bipush (q := 18) (-6) h dX6_layer_16 kb_m6 rfl ?_
    refine j_icmp_eq (q := 21) 24 h dX6_layer_18 (by decide) rfl hf (fun hf => ?_) (fun hf => ?_)
    · refine j_aload_n (q := 25) h dX6_layer_24 rfl rfl ?_
      refine j_gR (q := 28) h uin_X6 rfl rfl (by decide) rfl fl_X6_21 dX6_layer_25 rfl hf (fun b6 hf => ?_)
      refine j_iload_n (q := 29) h dX6_layer_28 rfl rfl ?_
      refine j_cVa (q := 32) (As := [.int _]) h rfl hf (fun _ hx => ct_X5_layerAt _ _ _ hx) ml_X6_73 vw_X5_layerAt rf_X6_layer_X5_layerAt ⟨Nat.zero_le _, Nat.zero_le _⟩ (Nat.le_of_ble_eq_true rfl) dX6_layer_29 rfl (fun b8 _ hf => ?_)
      refine j_astore_n (q := 33) [_, _, _] h dX6_layer_32 rfl (by decide) rfl rfl ?_
      refine j_aload_n (q := 34) h dX6_layer_33 rfl rfl ?_
      refine j_aload_n (q := 35) h dX6_layer_34 rfl rfl ?_
      refine j_gR (q := 38) h uin_X6 rfl rfl (by decide) rfl fl_X6_14 dX6_layer_35 rfl hf (fun b9 hf => ?_)
      refine j_cVv (q := 41) (As := [.ref _]) h rfl hf (fun _ hx => ct_X1_become _ _ _ hx) ml_X6_77 vw_X1_become rf_X6_layer_X1_become ⟨Nat.zero_le _, Nat.zero_le _⟩ (Nat.le_of_ble_eq_true rfl) dX6_layer_38 rfl (fun _ _ hf => ?_)
      refine j_aload_n (q := 42) h dX6_layer_41 rfl rfl ?_
      refine j_gR (q := 45) h uin_X6 rfl rfl (by decide) rfl fl_X6_14 dX6_layer_42 rfl hf (fun b12 hf => ?_)
      refine j_cVv (q := 48) (As := []) h rfl hf (fun _ hx => ct_X4_clear _ _ _ hx) ml_X6_61 vw_X4_clear rf_X6_layer_X4_clear ⟨Nat.zero_le _, Nat.zero_le _⟩ (Nat.le_of_ble_eq_true rfl) dX6_layer_45 rfl (fun _ _ hf => ?_)
      refine j_aload_n (q := 49) h dX6_layer_48 rfl rfl ?_
      refine j_cVi (q := 52) (As := []) h rfl hf (fun _ hx => ct_X1_heldCount _ _ _ hx) ml_X6_83 vw_X1_heldCount rf_X6_layer_X1_heldCount ⟨Nat.zero_le _, Nat.zero_le _⟩ (Nat.le_of_ble_eq_true rfl) dX6_layer_49 rfl (fun _ _ hf => ?_)
      exact j_iret h dX6_layer_52 hf
    · refine j_bipush (q := 23) (-5) h dX6_layer_21 kb_m5 rfl ?_
      exact j_iret h dX6_layer_23 hf
  · refine j_iconst (q := 8) (-1) h dX6_layer_7 ki_m1 rfl ?_
    exact j_iret h dX6_layer_8 hf
theorem ct_X6_layer (l : Launch) (D : va_G) (T : TT) {K : KT} {P : PT} {l0 : Nat} {l1 : Int32} {V : VT} {res : Int32 × VT} (hf : f_X6_layer K P l0 l1 V = some res) : CT l D T yX6_layer cX6_layer 3 (some .int) rm_X6_layer K P V [.ref l0, .int l1] (some (.int res.1)) res.2 :=
  fun _ => CT_of pn_X6 (cat_a (cat_i cat_0)) (Nat.le_of_ble_eq_true rfl) [some (.ref l0), some (.int l1), none] rfl (fun _ _ _ h => w_X6_layer_0 h hf)
/-! QuotedLayers.about(II)I -/
def rm_X6_about : Room := { frames := 2, cells := 0, slots := 0, locals := 42 }
theorem rf_X6_about_X1_part : RF rm_X1_part rm_X6_about 2 := ⟨⟨by decide, by decide⟩, rfl, rfl⟩
theorem rf_X6_about_X5_layerAt : RF rm_X5_layerAt rm_X6_about 2 := ⟨⟨by decide, by decide⟩, rfl, rfl⟩
theorem rf_X6_about_X6_isLayer : RF rm_X6_isLayer rm_X6_about 1 := ⟨⟨by decide, by decide⟩, rfl, rfl⟩
def f_X6_about (K : KT) (P : PT) (l0 : Nat) (l1 : Int32) (l2 : Int32) (V : VT) : Option (Int32 × VT) :=
  cS (f_X6_isLayer K P l1 V) fun x2 V1 => if x2 = 0 then (some ((-1 : Int32), V1)) else (if l2 < 0 then (some ((-2 : Int32), V1)) else (if ((8 : Int32)) < l2 then (some ((-2 : Int32), V1)) else (gR K P l0 4 1 fun b3 => cV K b3 3 (f_X5_layerAt K P b3 l1 V1) fun b5 V4 => cV K b5 0 (f_X1_part K P b5 l2 V4) fun x7 V6 => some (x7, V6))))
set_option maxRecDepth 20000 in
theorem w_X6_about_0 {g : GT} {K : KT} {P : PT} {res : Int32 × VT} (h : OK g RX6 cX6_about 3 (some .int)) {l0 : Nat} {l1 : Int32} {l2 : Int32} {V : VT} (hf : f_X6_about K P l0 l1 l2 V = some res) : J g rm_X6_about (QF g (some (.int res.1)) K P res.2 0 0) 3 K P V 0 0 0 [some (.ref l0), some (.int l1), some (.int l2)] [] := by
  rw [f_X6_about] at hf
  refine j_iload_n (q := 1) h dX6_about_0 rfl rfl ?_
  refine j_cSi (q := 4) (As := [.int _]) h rfl hf (fun _ hx => ct_X6_isLayer _ _ _ hx) ml_X6_70 sw_X6_isLayer rf_X6_about_X6_isLayer ⟨Nat.zero_le _, Nat.zero_le _⟩ (Nat.le_of_ble_eq_true rfl) dX6_about_1 rfl (fun _ _ hf => ?_)
  refine j_if_ne (q := 7) 9 h dX6_about_4 (by decide) rfl hf (fun hf => ?_) (fun hf => ?_)
  · refine j_iload_n (q := 10) h dX6_about_9 rfl rfl ?_
    refine j_if_lt (q := 13) 19 h dX6_about_10 (by decide) rfl hf (fun hf => ?_) (fun hf => ?_)
    · refine j_bipush (q := 21) (-2) h dX6_about_19 kb_m2 rfl ?_
      exact j_iret h dX6_about_21 hf
    · refine j_iload_n (q := 14) h dX6_about_13 rfl rfl ?_
      refine j_bipush (q := 16) (8) h dX6_about_14 kb_8 rfl ?_
      refine j_icmp_le (q := 19) 22 h dX6_about_16 (by decide) rfl hf (fun hf => ?_) (fun hf => ?_)
      · refine j_aload_n (q := 23) h dX6_about_22 rfl rfl ?_
        refine j_gR (q := 26) h uin_X6 rfl rfl (by decide) rfl fl_X6_21 dX6_about_23 rfl hf (fun b3 hf => ?_)
        refine j_iload_n (q := 27) h dX6_about_26 rfl rfl ?_
        refine j_cVa (q := 30) (As := [.int _]) h rfl hf (fun _ hx => ct_X5_layerAt _ _ _ hx) ml_X6_73 vw_X5_layerAt rf_X6_about_X5_layerAt ⟨Nat.zero_le _, Nat.zero_le _⟩ (Nat.le_of_ble_eq_true rfl) dX6_about_27 rfl (fun b5 _ hf => ?_)
        refine j_iload_n (q := 31) h dX6_about_30 rfl rfl ?_
        refine j_cVi (q := 34) (As := [.int _]) h rfl hf (fun _ hx => ct_X1_part _ _ _ hx) ml_X6_86 vw_X1_part rf_X6_about_X1_part ⟨Nat.zero_le _, Nat.zero_le _⟩ (Nat.le_of_ble_eq_true rfl) dX6_about_31 rfl (fun _ _ hf => ?_)
        exact j_iret h dX6_about_34 hf
      · refine j_bipush (q := 21) (-2) h dX6_about_19 kb_m2 rfl ?_
        exact j_iret h dX6_about_21 hf
  · refine j_iconst (q := 8) (-1) h dX6_about_7 ki_m1 rfl ?_
    exact j_iret h dX6_about_8 hf
theorem ct_X6_about (l : Launch) (D : va_G) (T : TT) {K : KT} {P : PT} {l0 : Nat} {l1 : Int32} {l2 : Int32} {V : VT} {res : Int32 × VT} (hf : f_X6_about K P l0 l1 l2 V = some res) : CT l D T yX6_about cX6_about 3 (some .int) rm_X6_about K P V [.ref l0, .int l1, .int l2] (some (.int res.1)) res.2 :=
  fun _ => CT_of pn_X6 (cat_a (cat_i (cat_i cat_0))) (Nat.le_of_ble_eq_true rfl) [some (.ref l0), some (.int l1), some (.int l2)] rfl (fun _ _ _ h => w_X6_about_0 h hf)
/-! QuotedLayers.chain(I)I -/
def rm_X6_chain : Room := { frames := 1, cells := 0, slots := 0, locals := 21 }
theorem rf_X6_chain_X4_add : RF rm_X4_add rm_X6_chain 2 := ⟨⟨by decide, by decide⟩, rfl, rfl⟩
theorem rf_X6_chain_X4_size : RF rm_X4_size rm_X6_chain 1 := ⟨⟨by decide, by decide⟩, rfl, rfl⟩
theorem rf_X6_chain_X6_isLayer : RF rm_X6_isLayer rm_X6_chain 1 := ⟨⟨by decide, by decide⟩, rfl, rfl⟩
def f_X6_chain (K : KT) (P : PT) (l0 : Nat) (l1 : Int32) (V : VT) : Option (Int32 × VT) :=
  cS (f_X6_isLayer K P l1 V) fun x2 V1 => if x2 = 0 then (some ((-1 : Int32), V1)) else (gR K P l0 4 1 fun b3 => gR K P b3 3 2 fun b4 => cV K b4 2 (f_X4_size K P b4 V1) fun x6 V5 => if x6 < ((5 : Int32)) then (gR K P l0 4 1 fun b7 => gR K P b7 3 2 fun b8 => cV K b8 2 (f_X4_add K P b8 l1 V5) fun u10 V9 => gR K P l0 4 1 fun b11 => gR K P b11 3 2 fun b12 => cV K b12 2 (f_X4_size K P b12 V9) fun x14 V13 => some (x14, V13)) else (some ((-4 : Int32), V5)))
set_option maxRecDepth 20000 in
theorem w_X6_chain_0 {g : GT} {K : KT} {P : PT} {res : Int32 × VT} (h : OK g RX6 cX6_chain 2 (some .int)) {l0 : Nat} {l1 : Int32} {V : VT} (hf : f_X6_chain K P l0 l1 V = some res) : J g rm_X6_chain (QF g (some (.int res.1)) K P res.2 0 0) 2 K P V 0 0 0 [some (.ref l0), some (.int l1)] [] := by
  rw [f_X6_chain] at hf
  refine j_iload_n (q := 1) h dX6_chain_0 rfl rfl ?_
  refine j_cSi (q := 4) (As := [.int _]) h rfl hf (fun _ hx => ct_X6_isLayer _ _ _ hx) ml_X6_70 sw_X6_isLayer rf_X6_chain_X6_isLayer ⟨Nat.zero_le _, Nat.zero_le _⟩ (Nat.le_of_ble_eq_true rfl) dX6_chain_1 rfl (fun _ _ hf => ?_)
  refine j_if_ne (q := 7) 9 h dX6_chain_4 (by decide) rfl hf (fun hf => ?_) (fun hf => ?_)
  · refine j_aload_n (q := 10) h dX6_chain_9 rfl rfl ?_
    refine j_gR (q := 13) h uin_X6 rfl rfl (by decide) rfl fl_X6_21 dX6_chain_10 rfl hf (fun b3 hf => ?_)
    refine j_gR (q := 16) h uin_X5 rfl rfl (by decide) rfl fl_X6_90 dX6_chain_13 rfl hf (fun b4 hf => ?_)
    refine j_cVi (q := 19) (As := []) h rfl hf (fun _ hx => ct_X4_size _ _ _ hx) ml_X6_54 vw_X4_size rf_X6_chain_X4_size ⟨Nat.zero_le _, Nat.zero_le _⟩ (Nat.le_of_ble_eq_true rfl) dX6_chain_16 rfl (fun _ _ hf => ?_)
    refine j_iconst (q := 20) (5) h dX6_chain_19 ki_5 rfl ?_
    refine j_icmp_lt (q := 23) 26 h dX6_chain_20 (by decide) rfl hf (fun hf => ?_) (fun hf => ?_)
    · refine j_aload_n (q := 27) h dX6_chain_26 rfl rfl ?_
      refine j_gR (q := 30) h uin_X6 rfl rfl (by decide) rfl fl_X6_21 dX6_chain_27 rfl hf (fun b7 hf => ?_)
      refine j_gR (q := 33) h uin_X5 rfl rfl (by decide) rfl fl_X6_90 dX6_chain_30 rfl hf (fun b8 hf => ?_)
      refine j_iload_n (q := 34) h dX6_chain_33 rfl rfl ?_
      refine j_cVv (q := 37) (As := [.int _]) h rfl hf (fun _ hx => ct_X4_add _ _ _ hx) ml_X6_58 vw_X4_add rf_X6_chain_X4_add ⟨Nat.zero_le _, Nat.zero_le _⟩ (Nat.le_of_ble_eq_true rfl) dX6_chain_34 rfl (fun _ _ hf => ?_)
      refine j_aload_n (q := 38) h dX6_chain_37 rfl rfl ?_
      refine j_gR (q := 41) h uin_X6 rfl rfl (by decide) rfl fl_X6_21 dX6_chain_38 rfl hf (fun b11 hf => ?_)
      refine j_gR (q := 44) h uin_X5 rfl rfl (by decide) rfl fl_X6_90 dX6_chain_41 rfl hf (fun b12 hf => ?_)
      refine j_cVi (q := 47) (As := []) h rfl hf (fun _ hx => ct_X4_size _ _ _ hx) ml_X6_54 vw_X4_size rf_X6_chain_X4_size ⟨Nat.zero_le _, Nat.zero_le _⟩ (Nat.le_of_ble_eq_true rfl) dX6_chain_44 rfl (fun _ _ hf => ?_)
      exact j_iret h dX6_chain_47 hf
    · refine j_bipush (q := 25) (-4) h dX6_chain_23 kb_m4 rfl ?_
      exact j_iret h dX6_chain_25 hf
  · refine j_iconst (q := 8) (-1) h dX6_chain_7 ki_m1 rfl ?_
    exact j_iret h dX6_chain_8 hf
theorem ct_X6_chain (l : Launch) (D : va_G) (T : TT) {K : KT} {P : PT} {l0 : Nat} {l1 : Int32} {V : VT} {res : Int32 × VT} (hf : f_X6_chain K P l0 l1 V = some res) : CT l D T yX6_chain cX6_chain 2 (some .int) rm_X6_chain K P V [.ref l0, .int l1] (some (.int res.1)) res.2 :=
  fun _ => CT_of pn_X6 (cat_a (cat_i cat_0)) (Nat.le_of_ble_eq_true rfl) [some (.ref l0), some (.int l1)] rfl (fun _ _ _ h => w_X6_chain_0 h hf)
/-! QuotedLayers.unchain()I -/
def rm_X6_unchain : Room := { frames := 1, cells := 0, slots := 0, locals := 20 }
theorem rf_X6_unchain_X4_dropLast : RF rm_X4_dropLast rm_X6_unchain 1 := ⟨⟨by decide, by decide⟩, rfl, rfl⟩
theorem rf_X6_unchain_X4_size : RF rm_X4_size rm_X6_unchain 1 := ⟨⟨by decide, by decide⟩, rfl, rfl⟩
def f_X6_unchain (K : KT) (P : PT) (l0 : Nat) (V : VT) : Option (Int32 × VT) :=
  gR K P l0 4 1 fun b1 => gR K P b1 3 2 fun b2 => cV K b2 2 (f_X4_size K P b2 V) fun x4 V3 => if x4 = 0 then (some ((-5 : Int32), V3)) else (gR K P l0 4 1 fun b5 => gR K P b5 3 2 fun b6 => cV K b6 2 (f_X4_dropLast K P b6 V3) fun u8 V7 => gR K P l0 4 1 fun b9 => gR K P b9 3 2 fun b10 => cV K b10 2 (f_X4_size K P b10 V7) fun x12 V11 => some (x12, V11))
set_option maxRecDepth 20000 in
theorem w_X6_unchain_0 {g : GT} {K : KT} {P : PT} {res : Int32 × VT} (h : OK g RX6 cX6_unchain 1 (some .int)) {l0 : Nat} {V : VT} (hf : f_X6_unchain K P l0 V = some res) : J g rm_X6_unchain (QF g (some (.int res.1)) K P res.2 0 0) 1 K P V 0 0 0 [some (.ref l0)] [] := by
  rw [f_X6_unchain] at hf
  refine j_aload_n (q := 1) h dX6_unchain_0 rfl rfl ?_
  refine j_gR (q := 4) h uin_X6 rfl rfl (by decide) rfl fl_X6_21 dX6_unchain_1 rfl hf (fun b1 hf => ?_)
  refine j_gR (q := 7) h uin_X5 rfl rfl (by decide) rfl fl_X6_90 dX6_unchain_4 rfl hf (fun b2 hf => ?_)
  refine j_cVi (q := 10) (As := []) h rfl hf (fun _ hx => ct_X4_size _ _ _ hx) ml_X6_54 vw_X4_size rf_X6_unchain_X4_size ⟨Nat.zero_le _, Nat.zero_le _⟩ (Nat.le_of_ble_eq_true rfl) dX6_unchain_7 rfl (fun _ _ hf => ?_)
  refine j_if_ne (q := 13) 16 h dX6_unchain_10 (by decide) rfl hf (fun hf => ?_) (fun hf => ?_)
  · refine j_aload_n (q := 17) h dX6_unchain_16 rfl rfl ?_
    refine j_gR (q := 20) h uin_X6 rfl rfl (by decide) rfl fl_X6_21 dX6_unchain_17 rfl hf (fun b5 hf => ?_)
    refine j_gR (q := 23) h uin_X5 rfl rfl (by decide) rfl fl_X6_90 dX6_unchain_20 rfl hf (fun b6 hf => ?_)
    refine j_cVv (q := 26) (As := []) h rfl hf (fun _ hx => ct_X4_dropLast _ _ _ hx) ml_X6_93 vw_X4_dropLast rf_X6_unchain_X4_dropLast ⟨Nat.zero_le _, Nat.zero_le _⟩ (Nat.le_of_ble_eq_true rfl) dX6_unchain_23 rfl (fun _ _ hf => ?_)
    refine j_aload_n (q := 27) h dX6_unchain_26 rfl rfl ?_
    refine j_gR (q := 30) h uin_X6 rfl rfl (by decide) rfl fl_X6_21 dX6_unchain_27 rfl hf (fun b9 hf => ?_)
    refine j_gR (q := 33) h uin_X5 rfl rfl (by decide) rfl fl_X6_90 dX6_unchain_30 rfl hf (fun b10 hf => ?_)
    refine j_cVi (q := 36) (As := []) h rfl hf (fun _ hx => ct_X4_size _ _ _ hx) ml_X6_54 vw_X4_size rf_X6_unchain_X4_size ⟨Nat.zero_le _, Nat.zero_le _⟩ (Nat.le_of_ble_eq_true rfl) dX6_unchain_33 rfl (fun _ _ hf => ?_)
    exact j_iret h dX6_unchain_36 hf
  · refine j_bipush (q := 15) (-5) h dX6_unchain_13 kb_m5 rfl ?_
    exact j_iret h dX6_unchain_15 hf
theorem ct_X6_unchain (l : Launch) (D : va_G) (T : TT) {K : KT} {P : PT} {l0 : Nat} {V : VT} {res : Int32 × VT} (hf : f_X6_unchain K P l0 V = some res) : CT l D T yX6_unchain cX6_unchain 1 (some .int) rm_X6_unchain K P V [.ref l0] (some (.int res.1)) res.2 :=
  fun _ => CT_of pn_X6 (cat_a cat_0) (Nat.le_of_ble_eq_true rfl) [some (.ref l0)] rfl (fun _ _ _ h => w_X6_unchain_0 h hf)
/-! QuotedLayers.text()I -/
def rm_X6_text : Room := { frames := 3, cells := 0, slots := 0, locals := 65 }
theorem rf_X6_text_X4_clear : RF rm_X4_clear rm_X6_text 1 := ⟨⟨by decide, by decide⟩, rfl, rfl⟩
theorem rf_X6_text_X4_copyFrom : RF rm_X4_copyFrom rm_X6_text 2 := ⟨⟨by decide, by decide⟩, rfl, rfl⟩
theorem rf_X6_text_X4_size : RF rm_X4_size rm_X6_text 1 := ⟨⟨by decide, by decide⟩, rfl, rfl⟩
def f_X6_text (K : KT) (P : PT) (l0 : Nat) (V : VT) : Option (Int32 × VT) :=
  gR K P l0 4 0 fun b1 => cV K b1 2 (f_X4_size K P b1 V) fun x3 V2 => if x3 = 0 then (some ((-5 : Int32), V2)) else (gR K P l0 4 0 fun b4 => cV K b4 2 (f_X4_size K P b4 V2) fun x6 V5 => if ((12 : Int32)) < x6 then (some ((-5 : Int32), V5)) else (gR K P l0 4 1 fun b7 => gR K P b7 3 3 fun b8 => gR K P l0 4 0 fun b9 => cV K b8 2 (f_X4_copyFrom K P b8 b9 V5) fun u11 V10 => gR K P l0 4 0 fun b12 => cV K b12 2 (f_X4_clear K P b12 V10) fun u14 V13 => gR K P l0 4 1 fun b15 => gR K P b15 3 3 fun b16 => cV K b16 2 (f_X4_size K P b16 V13) fun x18 V17 => some (x18, V17)))
set_option maxRecDepth 20000 in
theorem w_X6_text_0 {g : GT} {K : KT} {P : PT} {res : Int32 × VT} (h : OK g RX6 cX6_text 1 (some .int)) {l0 : Nat} {V : VT} (hf : f_X6_text K P l0 V = some res) : J g rm_X6_text (QF g (some (.int res.1)) K P res.2 0 0) 1 K P V 0 0 0 [some (.ref l0)] [] := by
  rw [f_X6_text] at hf
  refine j_aload_n (q := 1) h dX6_text_0 rfl rfl ?_
  refine j_gR (q := 4) h uin_X6 rfl rfl (by decide) rfl fl_X6_14 dX6_text_1 rfl hf (fun b1 hf => ?_)
  refine j_cVi (q := 7) (As := []) h rfl hf (fun _ hx => ct_X4_size _ _ _ hx) ml_X6_54 vw_X4_size rf_X6_text_X4_size ⟨Nat.zero_le _, Nat.zero_le _⟩ (Nat.le_of_ble_eq_true rfl) dX6_text_4 rfl (fun _ _ hf => ?_)
  refine j_if_eq (q := 10) 22 h dX6_text_7 (by decide) rfl hf (fun hf => ?_) (fun hf => ?_)
  · refine j_bipush (q := 24) (-5) h dX6_text_22 kb_m5 rfl ?_
    exact j_iret h dX6_text_24 hf
  · refine j_aload_n (q := 11) h dX6_text_10 rfl rfl ?_
    refine j_gR (q := 14) h uin_X6 rfl rfl (by decide) rfl fl_X6_14 dX6_text_11 rfl hf (fun b4 hf => ?_)
    refine j_cVi (q := 17) (As := []) h rfl hf (fun _ hx => ct_X4_size _ _ _ hx) ml_X6_54 vw_X4_size rf_X6_text_X4_size ⟨Nat.zero_le _, Nat.zero_le _⟩ (Nat.le_of_ble_eq_true rfl) dX6_text_14 rfl (fun _ _ hf => ?_)
    refine j_bipush (q := 19) (12) h dX6_text_17 kb_12 rfl ?_
    refine j_icmp_le (q := 22) 25 h dX6_text_19 (by decide) rfl hf (fun hf => ?_) (fun hf => ?_)
    · refine j_aload_n (q := 26) h dX6_text_25 rfl rfl ?_
      refine j_gR (q := 29) h uin_X6 rfl rfl (by decide) rfl fl_X6_21 dX6_text_26 rfl hf (fun b7 hf => ?_)
      refine j_gR (q := 32) h uin_X5 rfl rfl (by decide) rfl fl_X6_96 dX6_text_29 rfl hf (fun b8 hf => ?_)
      refine j_aload_n (q := 33) h dX6_text_32 rfl rfl ?_
      refine j_gR (q := 36) h uin_X6 rfl rfl (by decide) rfl fl_X6_14 dX6_text_33 rfl hf (fun b9 hf => ?_)
      refine j_cVv (q := 39) (As := [.ref _]) h rfl hf (fun _ hx => ct_X4_copyFrom _ _ _ hx) ml_X6_99 vw_X4_copyFrom rf_X6_text_X4_copyFrom ⟨Nat.zero_le _, Nat.zero_le _⟩ (Nat.le_of_ble_eq_true rfl) dX6_text_36 rfl (fun _ _ hf => ?_)
      refine j_aload_n (q := 40) h dX6_text_39 rfl rfl ?_
      refine j_gR (q := 43) h uin_X6 rfl rfl (by decide) rfl fl_X6_14 dX6_text_40 rfl hf (fun b12 hf => ?_)
      refine j_cVv (q := 46) (As := []) h rfl hf (fun _ hx => ct_X4_clear _ _ _ hx) ml_X6_61 vw_X4_clear rf_X6_text_X4_clear ⟨Nat.zero_le _, Nat.zero_le _⟩ (Nat.le_of_ble_eq_true rfl) dX6_text_43 rfl (fun _ _ hf => ?_)
      refine j_aload_n (q := 47) h dX6_text_46 rfl rfl ?_
      refine j_gR (q := 50) h uin_X6 rfl rfl (by decide) rfl fl_X6_21 dX6_text_47 rfl hf (fun b15 hf => ?_)
      refine j_gR (q := 53) h uin_X5 rfl rfl (by decide) rfl fl_X6_96 dX6_text_50 rfl hf (fun b16 hf => ?_)
      refine j_cVi (q := 56) (As := []) h rfl hf (fun _ hx => ct_X4_size _ _ _ hx) ml_X6_54 vw_X4_size rf_X6_text_X4_size ⟨Nat.zero_le _, Nat.zero_le _⟩ (Nat.le_of_ble_eq_true rfl) dX6_text_53 rfl (fun _ _ hf => ?_)
      exact j_iret h dX6_text_56 hf
    · refine j_bipush (q := 24) (-5) h dX6_text_22 kb_m5 rfl ?_
      exact j_iret h dX6_text_24 hf
theorem ct_X6_text (l : Launch) (D : va_G) (T : TT) {K : KT} {P : PT} {l0 : Nat} {V : VT} {res : Int32 × VT} (hf : f_X6_text K P l0 V = some res) : CT l D T yX6_text cX6_text 1 (some .int) rm_X6_text K P V [.ref l0] (some (.int res.1)) res.2 :=
  fun _ => CT_of pn_X6 (cat_a cat_0) (Nat.le_of_ble_eq_true rfl) [some (.ref l0)] rfl (fun _ _ _ h => w_X6_text_0 h hf)
/-! QuotedLayers.behind(II)I -/
def rm_X6_behind : Room := { frames := 4, cells := 0, slots := 0, locals := 96 }
theorem rf_X6_behind_X3_here : RF rm_X3_here rm_X6_behind 1 := ⟨⟨by decide, by decide⟩, rfl, rfl⟩
theorem rf_X6_behind_X3_putThrough : RF rm_X3_putThrough rm_X6_behind 7 := ⟨⟨by decide, by decide⟩, rfl, rfl⟩
theorem rf_X6_behind_X4_at : RF rm_X4_at rm_X6_behind 2 := ⟨⟨by decide, by decide⟩, rfl, rfl⟩
theorem rf_X6_behind_X4_copyFirst : RF rm_X4_copyFirst rm_X6_behind 4 := ⟨⟨by decide, by decide⟩, rfl, rfl⟩
theorem rf_X6_behind_X4_size : RF rm_X4_size rm_X6_behind 1 := ⟨⟨by decide, by decide⟩, rfl, rfl⟩
def f_X6_behind (K : KT) (P : PT) (l0 : Nat) (l1 : Int32) (l2 : Int32) (V : VT) : Option (Int32 × VT) :=
  if l1 < 0 then (some ((-2 : Int32), V)) else (gR K P l0 4 1 fun b1 => gR K P b1 3 2 fun b2 => cV K b2 2 (f_X4_size K P b2 V) fun x4 V3 => if x4 < l1 then (some ((-2 : Int32), V3)) else (gR K P l0 4 6 fun b5 => gR K P l0 4 1 fun b6 => gR K P b6 3 2 fun b7 => cV K b5 2 (f_X4_copyFirst K P b5 b7 l1 V3) fun u9 V8 => gR K P l0 4 4 fun b10 => gR K P l0 4 1 fun b11 => gR K P l0 4 6 fun b12 => gR K P l0 4 1 fun b13 => gR K P b13 3 3 fun b14 => cV K b10 1 (f_X3_putThrough K P b10 b11 b12 b14 ((-6 : Int32)) V8) fun x16 V15 => if x16 = ((-7 : Int32)) then (some (x16, V15)) else (if x16 = ((-5 : Int32)) then (some (x16, V15)) else (if l2 = ((-1 : Int32)) then (some (x16, V15)) else (gR K P l0 4 4 fun b17 => cV K b17 1 (f_X3_here K P b17 V15) fun b19 V18 => cV K b19 2 (f_X4_at K P b19 l2 V18) fun x21 V20 => some (x21, V20))))))
set_option maxRecDepth 20000 in
theorem w_X6_behind_0 {g : GT} {K : KT} {P : PT} {res : Int32 × VT} (h : OK g RX6 cX6_behind 4 (some .int)) {l0 : Nat} {l1 : Int32} {l2 : Int32} {V : VT} (hf : f_X6_behind K P l0 l1 l2 V = some res) : J g rm_X6_behind (QF g (some (.int res.1)) K P res.2 0 0) 4 K P V 0 0 0 [some (.ref l0), some (.int l1), some (.int l2), none] [] := by
  rw [f_X6_behind] at hf
  refine j_iload_n (q := 1) h dX6_behind_0 rfl rfl ?_
  refine j_if_lt (q := 4) 18 h dX6_behind_1 (by decide) rfl hf (fun hf => ?_) (fun hf => ?_)
  · refine j_bipush (q := 20) (-2) h dX6_behind_18 kb_m2 rfl ?_
    exact j_iret h dX6_behind_20 hf
  · refine j_iload_n (q := 5) h dX6_behind_4 rfl rfl ?_
    refine j_aload_n (q := 6) h dX6_behind_5 rfl rfl ?_
    refine j_gR (q := 9) h uin_X6 rfl rfl (by decide) rfl fl_X6_21 dX6_behind_6 rfl hf (fun b1 hf => ?_)
    refine j_gR (q := 12) h uin_X5 rfl rfl (by decide) rfl fl_X6_90 dX6_behind_9 rfl hf (fun b2 hf => ?_)
    refine j_cVi (q := 15) (As := []) h rfl hf (fun _ hx => ct_X4_size _ _ _ hx) ml_X6_54 vw_X4_size rf_X6_behind_X4_size ⟨Nat.zero_le _, Nat.zero_le _⟩ (Nat.le_of_ble_eq_true rfl) dX6_behind_12 rfl (fun _ _ hf => ?_)
    refine j_icmp_le (q := 18) 21 h dX6_behind_15 (by decide) rfl hf (fun hf => ?_) (fun hf => ?_)
    · refine j_aload_n (q := 22) h dX6_behind_21 rfl rfl ?_
      refine j_gR (q := 25) h uin_X6 rfl rfl (by decide) rfl fl_X6_41 dX6_behind_22 rfl hf (fun b5 hf => ?_)
      refine j_aload_n (q := 26) h dX6_behind_25 rfl rfl ?_
      refine j_gR (q := 29) h uin_X6 rfl rfl (by decide) rfl fl_X6_21 dX6_behind_26 rfl hf (fun b6 hf => ?_)
      refine j_gR (q := 32) h uin_X5 rfl rfl (by decide) rfl fl_X6_90 dX6_behind_29 rfl hf (fun b7 hf => ?_)
      refine j_iload_n (q := 33) h dX6_behind_32 rfl rfl ?_
      refine j_cVv (q := 36) (As := [.ref _, .int _]) h rfl hf (fun _ hx => ct_X4_copyFirst _ _ _ hx) ml_X6_102 vw_X4_copyFirst rf_X6_behind_X4_copyFirst ⟨Nat.zero_le _, Nat.zero_le _⟩ (Nat.le_of_ble_eq_true rfl) dX6_behind_33 rfl (fun _ _ hf => ?_)
      refine j_aload_n (q := 37) h dX6_behind_36 rfl rfl ?_
      refine j_gR (q := 40) h uin_X6 rfl rfl (by decide) rfl fl_X6_34 dX6_behind_37 rfl hf (fun b10 hf => ?_)
      refine j_aload_n (q := 41) h dX6_behind_40 rfl rfl ?_
      refine j_gR (q := 44) h uin_X6 rfl rfl (by decide) rfl fl_X6_21 dX6_behind_41 rfl hf (fun b11 hf => ?_)
      refine j_aload_n (q := 45) h dX6_behind_44 rfl rfl ?_
      refine j_gR (q := 48) h uin_X6 rfl rfl (by decide) rfl fl_X6_41 dX6_behind_45 rfl hf (fun b12 hf => ?_)
      refine j_aload_n (q := 49) h dX6_behind_48 rfl rfl ?_
      refine j_gR (q := 52) h uin_X6 rfl rfl (by decide) rfl fl_X6_21 dX6_behind_49 rfl hf (fun b13 hf => ?_)
      refine j_gR (q := 55) h uin_X5 rfl rfl (by decide) rfl fl_X6_96 dX6_behind_52 rfl hf (fun b14 hf => ?_)
      refine j_bipush (q := 57) (-6) h dX6_behind_55 kb_m6 rfl ?_
      refine j_cVi (q := 60) (As := [.ref _, .ref _, .ref _, .int _]) h rfl hf (fun _ hx => ct_X3_putThrough _ _ _ hx) ml_X6_106 vw_X3_putThrough rf_X6_behind_X3_putThrough ⟨Nat.zero_le _, Nat.zero_le _⟩ (Nat.le_of_ble_eq_true rfl) dX6_behind_57 rfl (fun _ _ hf => ?_)
      refine j_istore_n (q := 61) [_, _, _, _] h dX6_behind_60 rfl (by decide) rfl rfl ?_
      refine j_iload_n (q := 62) h dX6_behind_61 rfl rfl ?_
      refine j_bipush (q := 64) (-7) h dX6_behind_62 kb_m7 rfl ?_
      refine j_icmp_eq (q := 67) 73 h dX6_behind_64 (by decide) rfl hf (fun hf => ?_) (fun hf => ?_)
      · refine j_iload_n (q := 74) h dX6_behind_73 rfl rfl ?_
        exact j_iret h dX6_behind_74 hf
      · refine j_iload_n (q := 68) h dX6_behind_67 rfl rfl ?_
        refine j_bipush (q := 70) (-5) h dX6_behind_68 kb_m5 rfl ?_
        refine j_icmp_ne (q := 73) 75 h dX6_behind_70 (by decide) rfl hf (fun hf => ?_) (fun hf => ?_)
        · refine j_iload_n (q := 76) h dX6_behind_75 rfl rfl ?_
          refine j_iconst (q := 77) (-1) h dX6_behind_76 ki_m1 rfl ?_
          refine j_icmp_ne (q := 80) 84 h dX6_behind_77 (by decide) rfl hf (fun hf => ?_) (fun hf => ?_)
          · refine j_aload_n (q := 85) h dX6_behind_84 rfl rfl ?_
            refine j_gR (q := 88) h uin_X6 rfl rfl (by decide) rfl fl_X6_34 dX6_behind_85 rfl hf (fun b17 hf => ?_)
            refine j_cVa (q := 91) (As := []) h rfl hf (fun _ hx => ct_X3_here _ _ _ hx) ml_X6_110 vw_X3_here rf_X6_behind_X3_here ⟨Nat.zero_le _, Nat.zero_le _⟩ (Nat.le_of_ble_eq_true rfl) dX6_behind_88 rfl (fun b19 _ hf => ?_)
            refine j_iload_n (q := 92) h dX6_behind_91 rfl rfl ?_
            refine j_cVi (q := 95) (As := [.int _]) h rfl hf (fun _ hx => ct_X4_at _ _ _ hx) ml_X6_114 vw_X4_at rf_X6_behind_X4_at ⟨Nat.zero_le _, Nat.zero_le _⟩ (Nat.le_of_ble_eq_true rfl) dX6_behind_92 rfl (fun _ _ hf => ?_)
            exact j_iret h dX6_behind_95 hf
          · refine j_iload_n (q := 81) h dX6_behind_80 rfl rfl ?_
            refine j_goto 95 h dX6_behind_81 (by decide) ?_
            exact j_iret h dX6_behind_95 hf
        · refine j_iload_n (q := 74) h dX6_behind_73 rfl rfl ?_
          exact j_iret h dX6_behind_74 hf
    · refine j_bipush (q := 20) (-2) h dX6_behind_18 kb_m2 rfl ?_
      exact j_iret h dX6_behind_20 hf
theorem ct_X6_behind (l : Launch) (D : va_G) (T : TT) {K : KT} {P : PT} {l0 : Nat} {l1 : Int32} {l2 : Int32} {V : VT} {res : Int32 × VT} (hf : f_X6_behind K P l0 l1 l2 V = some res) : CT l D T yX6_behind cX6_behind 4 (some .int) rm_X6_behind K P V [.ref l0, .int l1, .int l2] (some (.int res.1)) res.2 :=
  fun _ => CT_of pn_X6 (cat_a (cat_i (cat_i cat_0))) (Nat.le_of_ble_eq_true rfl) [some (.ref l0), some (.int l1), some (.int l2), none] rfl (fun _ _ _ h => w_X6_behind_0 h hf)
/-! QuotedLayers.barred()I -/
def rm_X6_barred : Room := { frames := 4, cells := 0, slots := 0, locals := 96 }
theorem rf_X6_barred_X3_barringPlace : RF rm_X3_barringPlace rm_X6_barred 1 := ⟨⟨by decide, by decide⟩, rfl, rfl⟩
theorem rf_X6_barred_X3_putThrough : RF rm_X3_putThrough rm_X6_barred 7 := ⟨⟨by decide, by decide⟩, rfl, rfl⟩
def f_X6_barred (K : KT) (P : PT) (l0 : Nat) (V : VT) : Option (Int32 × VT) :=
  gR K P l0 4 4 fun b1 => gR K P l0 4 1 fun b2 => gR K P l0 4 1 fun b3 => gR K P b3 3 2 fun b4 => gR K P l0 4 1 fun b5 => gR K P b5 3 3 fun b6 => cV K b1 1 (f_X3_putThrough K P b1 b2 b4 b6 ((-6 : Int32)) V) fun x8 V7 => if x8 = ((-7 : Int32)) then (some ((-7 : Int32), V7)) else (gR K P l0 4 4 fun b9 => cV K b9 1 (f_X3_barringPlace K P b9 V7) fun x11 V10 => some (x11, V10))
set_option maxRecDepth 20000 in
theorem w_X6_barred_0 {g : GT} {K : KT} {P : PT} {res : Int32 × VT} (h : OK g RX6 cX6_barred 2 (some .int)) {l0 : Nat} {V : VT} (hf : f_X6_barred K P l0 V = some res) : J g rm_X6_barred (QF g (some (.int res.1)) K P res.2 0 0) 2 K P V 0 0 0 [some (.ref l0), none] [] := by
  rw [f_X6_barred] at hf
  refine j_aload_n (q := 1) h dX6_barred_0 rfl rfl ?_
  refine j_gR (q := 4) h uin_X6 rfl rfl (by decide) rfl fl_X6_34 dX6_barred_1 rfl hf (fun b1 hf => ?_)
  refine j_aload_n (q := 5) h dX6_barred_4 rfl rfl ?_
  refine j_gR (q := 8) h uin_X6 rfl rfl (by decide) rfl fl_X6_21 dX6_barred_5 rfl hf (fun b2 hf => ?_)
  refine j_aload_n (q := 9) h dX6_barred_8 rfl rfl ?_
  refine j_gR (q := 12) h uin_X6 rfl rfl (by decide) rfl fl_X6_21 dX6_barred_9 rfl hf (fun b3 hf => ?_)
  refine j_gR (q := 15) h uin_X5 rfl rfl (by decide) rfl fl_X6_90 dX6_barred_12 rfl hf (fun b4 hf => ?_)
  refine j_aload_n (q := 16) h dX6_barred_15 rfl rfl ?_
  refine j_gR (q := 19) h uin_X6 rfl rfl (by decide) rfl fl_X6_21 dX6_barred_16 rfl hf (fun b5 hf => ?_)
  refine j_gR (q := 22) h uin_X5 rfl rfl (by decide) rfl fl_X6_96 dX6_barred_19 rfl hf (fun b6 hf => ?_)
  refine j_bipush (q := 24) (-6) h dX6_barred_22 kb_m6 rfl ?_
  refine j_cVi (q := 27) (As := [.ref _, .ref _, .ref _, .int _]) h rfl hf (fun _ hx => ct_X3_putThrough _ _ _ hx) ml_X6_106 vw_X3_putThrough rf_X6_barred_X3_putThrough ⟨Nat.zero_le _, Nat.zero_le _⟩ (Nat.le_of_ble_eq_true rfl) dX6_barred_24 rfl (fun _ _ hf => ?_)
  refine j_istore_n (q := 28) [_, _] h dX6_barred_27 rfl (by decide) rfl rfl ?_
  refine j_iload_n (q := 29) h dX6_barred_28 rfl rfl ?_
  refine j_bipush (q := 31) (-7) h dX6_barred_29 kb_m7 rfl ?_
  refine j_icmp_ne (q := 34) 39 h dX6_barred_31 (by decide) rfl hf (fun hf => ?_) (fun hf => ?_)
  · refine j_aload_n (q := 40) h dX6_barred_39 rfl rfl ?_
    refine j_gR (q := 43) h uin_X6 rfl rfl (by decide) rfl fl_X6_34 dX6_barred_40 rfl hf (fun b9 hf => ?_)
    refine j_cVi (q := 46) (As := []) h rfl hf (fun _ hx => ct_X3_barringPlace _ _ _ hx) ml_X6_117 vw_X3_barringPlace rf_X6_barred_X3_barringPlace ⟨Nat.zero_le _, Nat.zero_le _⟩ (Nat.le_of_ble_eq_true rfl) dX6_barred_43 rfl (fun _ _ hf => ?_)
    exact j_iret h dX6_barred_46 hf
  · refine j_bipush (q := 36) (-7) h dX6_barred_34 kb_m7 rfl ?_
    refine j_goto 46 h dX6_barred_36 (by decide) ?_
    exact j_iret h dX6_barred_46 hf
theorem ct_X6_barred (l : Launch) (D : va_G) (T : TT) {K : KT} {P : PT} {l0 : Nat} {V : VT} {res : Int32 × VT} (hf : f_X6_barred K P l0 V = some res) : CT l D T yX6_barred cX6_barred 2 (some .int) rm_X6_barred K P V [.ref l0] (some (.int res.1)) res.2 :=
  fun _ => CT_of pn_X6 (cat_a cat_0) (Nat.le_of_ble_eq_true rfl) [some (.ref l0), none] rfl (fun _ _ _ h => w_X6_barred_0 h hf)
/-! QuotedLayers.lengthOfLone(I)I -/
def rm_X6_lengthOfLone : Room := { frames := 4, cells := 0, slots := 0, locals := 96 }
theorem rf_X6_lengthOfLone_X3_putThrough : RF rm_X3_putThrough rm_X6_lengthOfLone 7 := ⟨⟨by decide, by decide⟩, rfl, rfl⟩
theorem rf_X6_lengthOfLone_X4_add : RF rm_X4_add rm_X6_lengthOfLone 2 := ⟨⟨by decide, by decide⟩, rfl, rfl⟩
theorem rf_X6_lengthOfLone_X4_clear : RF rm_X4_clear rm_X6_lengthOfLone 1 := ⟨⟨by decide, by decide⟩, rfl, rfl⟩
def f_X6_lengthOfLone (K : KT) (P : PT) (l0 : Nat) (l1 : Int32) (V : VT) : Option (Int32 × VT) :=
  gR K P l0 4 5 fun b1 => cV K b1 2 (f_X4_clear K P b1 V) fun u3 V2 => gR K P l0 4 5 fun b4 => cV K b4 2 (f_X4_add K P b4 l1 V2) fun u6 V5 => gR K P l0 4 4 fun b7 => gR K P l0 4 1 fun b8 => gR K P l0 4 1 fun b9 => gR K P b9 3 2 fun b10 => gR K P l0 4 5 fun b11 => cV K b7 1 (f_X3_putThrough K P b7 b8 b10 b11 ((-6 : Int32)) V5) fun x13 V12 => some (x13, V12)
set_option maxRecDepth 20000 in
theorem w_X6_lengthOfLone_0 {g : GT} {K : KT} {P : PT} {res : Int32 × VT} (h : OK g RX6 cX6_lengthOfLone 2 (some .int)) {l0 : Nat} {l1 : Int32} {V : VT} (hf : f_X6_lengthOfLone K P l0 l1 V = some res) : J g rm_X6_lengthOfLone (QF g (some (.int res.1)) K P res.2 0 0) 2 K P V 0 0 0 [some (.ref l0), some (.int l1)] [] := by
  rw [f_X6_lengthOfLone] at hf
  refine j_aload_n (q := 1) h dX6_lengthOfLone_0 rfl rfl ?_
  refine j_gR (q := 4) h uin_X6 rfl rfl (by decide) rfl fl_X6_38 dX6_lengthOfLone_1 rfl hf (fun b1 hf => ?_)
  refine j_cVv (q := 7) (As := []) h rfl hf (fun _ hx => ct_X4_clear _ _ _ hx) ml_X6_61 vw_X4_clear rf_X6_lengthOfLone_X4_clear ⟨Nat.zero_le _, Nat.zero_le _⟩ (Nat.le_of_ble_eq_true rfl) dX6_lengthOfLone_4 rfl (fun _ _ hf => ?_)
  refine j_aload_n (q := 8) h dX6_lengthOfLone_7 rfl rfl ?_
  refine j_gR (q := 11) h uin_X6 rfl rfl (by decide) rfl fl_X6_38 dX6_lengthOfLone_8 rfl hf (fun b4 hf => ?_)
  refine j_iload_n (q := 12) h dX6_lengthOfLone_11 rfl rfl ?_
  refine j_cVv (q := 15) (As := [.int _]) h rfl hf (fun _ hx => ct_X4_add _ _ _ hx) ml_X6_58 vw_X4_add rf_X6_lengthOfLone_X4_add ⟨Nat.zero_le _, Nat.zero_le _⟩ (Nat.le_of_ble_eq_true rfl) dX6_lengthOfLone_12 rfl (fun _ _ hf => ?_)
  refine j_aload_n (q := 16) h dX6_lengthOfLone_15 rfl rfl ?_
  refine j_gR (q := 19) h uin_X6 rfl rfl (by decide) rfl fl_X6_34 dX6_lengthOfLone_16 rfl hf (fun b7 hf => ?_)
  refine j_aload_n (q := 20) h dX6_lengthOfLone_19 rfl rfl ?_
  refine j_gR (q := 23) h uin_X6 rfl rfl (by decide) rfl fl_X6_21 dX6_lengthOfLone_20 rfl hf (fun b8 hf => ?_)
  refine j_aload_n (q := 24) h dX6_lengthOfLone_23 rfl rfl ?_
  refine j_gR (q := 27) h uin_X6 rfl rfl (by decide) rfl fl_X6_21 dX6_lengthOfLone_24 rfl hf (fun b9 hf => ?_)
  refine j_gR (q := 30) h uin_X5 rfl rfl (by decide) rfl fl_X6_90 dX6_lengthOfLone_27 rfl hf (fun b10 hf => ?_)
  refine j_aload_n (q := 31) h dX6_lengthOfLone_30 rfl rfl ?_
  refine j_gR (q := 34) h uin_X6 rfl rfl (by decide) rfl fl_X6_38 dX6_lengthOfLone_31 rfl hf (fun b11 hf => ?_)
  refine j_bipush (q := 36) (-6) h dX6_lengthOfLone_34 kb_m6 rfl ?_
  refine j_cVi (q := 39) (As := [.ref _, .ref _, .ref _, .int _]) h rfl hf (fun _ hx => ct_X3_putThrough _ _ _ hx) ml_X6_106 vw_X3_putThrough rf_X6_lengthOfLone_X3_putThrough ⟨Nat.zero_le _, Nat.zero_le _⟩ (Nat.le_of_ble_eq_true rfl) dX6_lengthOfLone_36 rfl (fun _ _ hf => ?_)
  exact j_iret h dX6_lengthOfLone_39 hf
theorem ct_X6_lengthOfLone (l : Launch) (D : va_G) (T : TT) {K : KT} {P : PT} {l0 : Nat} {l1 : Int32} {V : VT} {res : Int32 × VT} (hf : f_X6_lengthOfLone K P l0 l1 V = some res) : CT l D T yX6_lengthOfLone cX6_lengthOfLone 2 (some .int) rm_X6_lengthOfLone K P V [.ref l0, .int l1] (some (.int res.1)) res.2 :=
  fun _ => CT_of pn_X6 (cat_a (cat_i cat_0)) (Nat.le_of_ble_eq_true rfl) [some (.ref l0), some (.int l1)] rfl (fun _ _ _ h => w_X6_lengthOfLone_0 h hf)
