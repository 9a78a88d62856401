/-! QuotedLayers.asDigits(LQuotedLayers$Row;)I -/
def rm_X6_asDigits : Room := { frames := 1, cells := 0, slots := 0, locals := 21 }
theorem rf_X6_asDigits_X4_at : RF rm_X4_at rm_X6_asDigits 2 := ⟨⟨by decide, by decide⟩, rfl, rfl⟩
theorem rf_X6_asDigits_X4_size : RF rm_X4_size rm_X6_asDigits 1 := ⟨⟨by decide, by decide⟩, rfl, rfl⟩
def f_X6_asDigits_4 (K : KT) (P : PT) : Nat → Nat → Int32 → Int32 → VT → Option (Int32 × VT)
  | 0, _, _, _, _ => none
  | n + 1, l0, l1, l2, V => cV K l0 2 (f_X4_size K P l0 V) fun x2 V1 => if l2 < x2 then (cV K l0 2 (f_X4_at K P l0 l2 V1) fun x4 V3 => (f_X6_asDigits_4 K P n) l0 ((l1 * ((10 : Int32))) + x4) (l2 + (1 : Int32)) V3) else (some (l1, V1))
def f_X6_asDigits (K : KT) (P : PT) (l0 : Nat) (V : VT) : Option (Int32 × VT) :=
  f_X6_asDigits_4 K P FU l0 ((1 : Int32)) ((0 : Int32)) V
set_option maxRecDepth 20000 in
theorem w_X6_asDigits_4 {g : GT} {K : KT} {P : PT} {res : Int32 × VT} (h : OK g RX6 cX6_asDigits 3 (some .int)) : ∀ (n : Nat) (l0 : Nat) (l1 : Int32) (l2 : Int32) (V : VT), f_X6_asDigits_4 K P n l0 l1 l2 V = some res → J g rm_X6_asDigits (QF g (some (.int res.1)) K P res.2 0 0) 3 K P V 0 0 4 [some (.ref l0), some (.int l1), some (.int l2)] [] := by
  intro n
  induction n with
  | zero => intro l0 l1 l2 V hf; rw [f_X6_asDigits_4] at hf; cases hf
  | succ n ih =>
    intro l0 l1 l2 V hf
    rw [f_X6_asDigits_4] at hf
    refine j_iload_n (q := 5) h dX6_asDigits_4 rfl rfl ?_
    refine j_aload_n (q := 6) h dX6_asDigits_5 rfl rfl ?_
    refine j_cVi (q := 9) (As := []) h rfl hf (fun _ hx => ct_X4_size _ _ _ hx) ml_X6_54 vw_X4_size rf_X6_asDigits_X4_size ⟨Nat.zero_le _, Nat.zero_le _⟩ (Nat.le_of_ble_eq_true rfl) dX6_asDigits_6 rfl (fun _ _ hf => ?_)
    refine j_icmp_ge (q := 12) 29 h dX6_asDigits_9 (by decide) rfl hf (fun hf => ?_) (fun hf => ?_)
    · refine j_iload_n (q := 30) h dX6_asDigits_29 rfl rfl ?_
      exact j_iret h dX6_asDigits_30 hf
    · refine j_iload_n (q := 13) h dX6_asDigits_12 rfl rfl ?_
      refine j_bipush (q := 15) (10) h dX6_asDigits_13 kb_10 rfl ?_
      refine j_imul (q := 16) h dX6_asDigits_15 rfl ?_
      refine j_aload_n (q := 17) h dX6_asDigits_16 rfl rfl ?_
      refine j_iload_n (q := 18) h dX6_asDigits_17 rfl rfl ?_
      refine j_cVi (q := 21) (As := [.int _]) h rfl hf (fun _ hx => ct_X4_at _ _ _ hx) ml_X6_114 vw_X4_at rf_X6_asDigits_X4_at ⟨Nat.zero_le _, Nat.zero_le _⟩ (Nat.le_of_ble_eq_true rfl) dX6_asDigits_18 rfl (fun _ _ hf => ?_)
      refine j_iadd (q := 22) h dX6_asDigits_21 rfl ?_
      refine j_istore_n (q := 23) [_, _, _] h dX6_asDigits_22 rfl (by decide) rfl rfl ?_
      refine j_iinc (q := 26) _ [_, _, _] h dX6_asDigits_23 rfl (by decide) rfl (kc_1 _) rfl rfl ?_
      refine j_goto 4 h dX6_asDigits_26 (by decide) ?_
      exact j_sub (lsub_s (lsub_s (lsub_s lsub_0))) (ih _ _ _ _ hf)
set_option maxRecDepth 20000 in
theorem w_X6_asDigits_0 {g : GT} {K : KT} {P : PT} {res : Int32 × VT} (h : OK g RX6 cX6_asDigits 3 (some .int)) {l0 : Nat} {V : VT} (hf : f_X6_asDigits K P l0 V = some res) : J g rm_X6_asDigits (QF g (some (.int res.1)) K P res.2 0 0) 3 K P V 0 0 0 [some (.ref l0), none, none] [] := by
  rw [f_X6_asDigits] at hf
  refine j_iconst (q := 1) (1) h dX6_asDigits_0 ki_1 rfl ?_
  refine j_istore_n (q := 2) [_, _, _] h dX6_asDigits_1 rfl (by decide) rfl rfl ?_
  refine j_iconst (q := 3) (0) h dX6_asDigits_2 ki_0 rfl ?_
  refine j_istore_n (q := 4) [_, _, _] h dX6_asDigits_3 rfl (by decide) rfl rfl ?_
  exact j_sub (lsub_s (lsub_s (lsub_s lsub_0))) (w_X6_asDigits_4 h FU _ _ _ _ hf)
theorem ct_X6_asDigits (l : Launch) (D : va_G) (T : TT) {K : KT} {P : PT} {l0 : Nat} {V : VT} {res : Int32 × VT} (hf : f_X6_asDigits K P l0 V = some res) : CT l D T yX6_asDigits cX6_asDigits 3 (some .int) rm_X6_asDigits K P V [.ref l0] (some (.int res.1)) res.2 :=
  fun _ => CT_of pn_X6 (cat_a cat_0) (Nat.le_of_ble_eq_true rfl) [some (.ref l0), none, none] rfl (fun _ _ _ h => w_X6_asDigits_0 h hf)
/-! QuotedLayers.rows(I)I -/
def rm_X6_rows : Room := { frames := 5, cells := 0, slots := 0, locals := 119 }
theorem rf_X6_rows_X0_nextDigits : RF rm_X0_nextDigits rm_X6_rows 3 := ⟨⟨by decide, by decide⟩, rfl, rfl⟩
theorem rf_X6_rows_X4_fillZeros : RF rm_X4_fillZeros rm_X6_rows 3 := ⟨⟨by decide, by decide⟩, rfl, rfl⟩
theorem rf_X6_rows_X4_size : RF rm_X4_size rm_X6_rows 1 := ⟨⟨by decide, by decide⟩, rfl, rfl⟩
theorem rf_X6_rows_X6_asDigits : RF rm_X6_asDigits rm_X6_rows 3 := ⟨⟨by decide, by decide⟩, rfl, rfl⟩
theorem rf_X6_rows_X6_readsPadWholly : RF rm_X6_readsPadWholly rm_X6_rows 3 := ⟨⟨by decide, by decide⟩, rfl, rfl⟩
def f_X6_rows_91 (K : KT) (P : PT) (k17 : Nat → Int32 → Int32 → Int32 → VT → Option (Int32 × VT)) (l0 : Nat) (l1 : Int32) (l2 : Int32) (l3 : Int32) (V : VT) : Option (Int32 × VT) :=
  k17 l0 l1 l2 (l3 + (1 : Int32)) V
def f_X6_rows_75 (K : KT) (P : PT) (k17 : Nat → Int32 → Int32 → Int32 → VT → Option (Int32 × VT)) (k35 : Nat → Int32 → Int32 → Int32 → Int32 → Int32 → VT → Option (Int32 × VT)) (l0 : Nat) (l1 : Int32) (l2 : Int32) (l3 : Int32) (l5 : Int32) (V : VT) : Option (Int32 × VT) :=
  gR K P l0 4 7 fun b1 => cS (f_X0_nextDigits K P b1 ((5 : Int32)) V) fun x3 V2 => k35 l0 l1 l2 l3 x3 (l5 + (1 : Int32)) V2
def f_X6_rows_35 (K : KT) (P : PT) (k17 : Nat → Int32 → Int32 → Int32 → VT → Option (Int32 × VT)) : Nat → Nat → Int32 → Int32 → Int32 → Int32 → Int32 → VT → Option (Int32 × VT)
  | 0, _, _, _, _, _, _, _ => none
  | n + 1, l0, l1, l2, l3, l4, l5, V => if l4 = 0 then (f_X6_rows_91 K P k17 l0 l1 l2 l3 V) else (if l5 < ((625 : Int32)) then (gR K P l0 4 7 fun b1 => cV K l0 4 (f_X6_readsPadWholly K P l0 b1 V) fun x3 V2 => if x3 = 0 then (f_X6_rows_75 K P k17 (f_X6_rows_35 K P k17 n) l0 l1 l2 l3 l5 V2) else (if l2 = l1 then (gR K P l0 4 7 fun b4 => cS (f_X6_asDigits K P b4 V2) fun x6 V5 => some (x6, V5)) else (f_X6_rows_75 K P k17 (f_X6_rows_35 K P k17 n) l0 l1 (l2 + (1 : Int32)) l3 l5 V2))) else (f_X6_rows_91 K P k17 l0 l1 l2 l3 V))
def f_X6_rows_17 (K : KT) (P : PT) : Nat → Nat → Int32 → Int32 → Int32 → VT → Option (Int32 × VT)
  | 0, _, _, _, _, _ => none
  | n + 1, l0, l1, l2, l3, V => if ((3 : Int32)) < l3 then (if l1 = ((-1 : Int32)) then (some (l2, V)) else (some ((-6 : Int32), V))) else (gR K P l0 4 7 fun b1 => cV K b1 2 (f_X4_fillZeros K P b1 l3 V) fun x3 V2 => f_X6_rows_35 K P (f_X6_rows_17 K P n) FU l0 l1 l2 l3 x3 ((0 : Int32)) V2)
def f_X6_rows (K : KT) (P : PT) (l0 : Nat) (l1 : Int32) (V : VT) : Option (Int32 × VT) :=
  gR K P l0 4 0 fun b1 => cV K b1 2 (f_X4_size K P b1 V) fun x3 V2 => if x3 = 0 then (some ((-3 : Int32), V2)) else (f_X6_rows_17 K P FU l0 l1 ((0 : Int32)) ((1 : Int32)) V2)
set_option maxRecDepth 20000 in
theorem w_X6_rows_91 {g : GT} {K : KT} {P : PT} {res : Int32 × VT} (h : OK g RX6 cX6_rows 6 (some .int)) {k17 : Nat → Int32 → Int32 → Int32 → VT → Option (Int32 × VT)} (hk17 : ∀ (l0 : Nat) (l1 : Int32) (l2 : Int32) (l3 : Int32) (V : VT), k17 l0 l1 l2 l3 V = some res → J g rm_X6_rows (QF g (some (.int res.1)) K P res.2 0 0) 6 K P V 0 0 17 [some (.ref l0), some (.int l1), some (.int l2), some (.int l3), none, none] []) {l0 : Nat} {l1 : Int32} {l2 : Int32} {l3 : Int32} {V : VT} (hf : f_X6_rows_91 K P k17 l0 l1 l2 l3 V = some res) : J g rm_X6_rows (QF g (some (.int res.1)) K P res.2 0 0) 6 K P V 0 0 91 [some (.ref l0), some (.int l1), some (.int l2), some (.int l3), none, none] [] := by
  rw [f_X6_rows_91] at hf
  refine j_iinc (q := 94) _ [_, _, _, _, _, _] h dX6_rows_91 rfl (by decide) rfl (kc_1 _) rfl rfl ?_
  refine j_goto 17 h dX6_rows_94 (by decide) ?_
  exact j_sub (lsub_s (lsub_s (lsub_s (lsub_s (lsub_n (lsub_n lsub_0)))))) (hk17 _ _ _ _ _ hf)
set_option maxRecDepth 20000 in
theorem w_X6_rows_75 {g : GT} {K : KT} {P : PT} {res : Int32 × VT} (h : OK g RX6 cX6_rows 6 (some .int)) {k17 : Nat → Int32 → Int32 → Int32 → VT → Option (Int32 × VT)} {k35 : Nat → Int32 → Int32 → Int32 → Int32 → Int32 → VT → Option (Int32 × VT)} (hk17 : ∀ (l0 : Nat) (l1 : Int32) (l2 : Int32) (l3 : Int32) (V : VT), k17 l0 l1 l2 l3 V = some res → J g rm_X6_rows (QF g (some (.int res.1)) K P res.2 0 0) 6 K P V 0 0 17 [some (.ref l0), some (.int l1), some (.int l2), some (.int l3), none, none] []) (hk35 : ∀ (l0 : Nat) (l1 : Int32) (l2 : Int32) (l3 : Int32) (l4 : Int32) (l5 : Int32) (V : VT), k35 l0 l1 l2 l3 l4 l5 V = some res → J g rm_X6_rows (QF g (some (.int res.1)) K P res.2 0 0) 6 K P V 0 0 35 [some (.ref l0), some (.int l1), some (.int l2), some (.int l3), some (.int l4), some (.int l5)] []) {l0 : Nat} {l1 : Int32} {l2 : Int32} {l3 : Int32} {l5 : Int32} {V : VT} (hf : f_X6_rows_75 K P k17 k35 l0 l1 l2 l3 l5 V = some res) : J g rm_X6_rows (QF g (some (.int res.1)) K P res.2 0 0) 6 K P V 0 0 75 [some (.ref l0), some (.int l1), some (.int l2), some (.int l3), none, some (.int l5)] [] := by
  rw [f_X6_rows_75] at hf
  refine j_aload_n (q := 76) h dX6_rows_75 rfl rfl ?_
  refine j_gR (q := 79) h uin_X6 rfl rfl (by decide) rfl fl_X6_44 dX6_rows_76 rfl hf (fun b1 hf => ?_)
  refine j_iconst (q := 80) (5) h dX6_rows_79 ki_5 rfl ?_
  refine j_cSi (q := 83) (As := [.ref _, .int _]) h rfl hf (fun _ hx => ct_X0_nextDigits _ _ _ hx) ml_X6_157 sw_X0_nextDigits rf_X6_rows_X0_nextDigits ⟨Nat.zero_le _, Nat.zero_le _⟩ (Nat.le_of_ble_eq_true rfl) dX6_rows_80 rfl (fun _ _ hf => ?_)
  refine j_istore (q := 85) [_, _, _, _, _, _] h dX6_rows_83 rfl (by decide) rfl rfl ?_
  refine j_iinc (q := 88) _ [_, _, _, _, _, _] h dX6_rows_85 rfl (by decide) rfl (kc_1 _) rfl rfl ?_
  refine j_goto 35 h dX6_rows_88 (by decide) ?_
  exact j_sub (lsub_s (lsub_s (lsub_s (lsub_s (lsub_s (lsub_s lsub_0)))))) (hk35 _ _ _ _ _ _ _ hf)
set_option maxRecDepth 20000 in
theorem w_X6_rows_35 {g : GT} {K : KT} {P : PT} {res : Int32 × VT} (h : OK g RX6 cX6_rows 6 (some .int)) {k17 : Nat → Int32 → Int32 → Int32 → VT → Option (Int32 × VT)} (hk17 : ∀ (l0 : Nat) (l1 : Int32) (l2 : Int32) (l3 : Int32) (V : VT), k17 l0 l1 l2 l3 V = some res → J g rm_X6_rows (QF g (some (.int res.1)) K P res.2 0 0) 6 K P V 0 0 17 [some (.ref l0), some (.int l1), some (.int l2), some (.int l3), none, none] []) : ∀ (n : Nat) (l0 : Nat) (l1 : Int32) (l2 : Int32) (l3 : Int32) (l4 : Int32) (l5 : Int32) (V : VT), f_X6_rows_35 K P k17 n l0 l1 l2 l3 l4 l5 V = some res → J g rm_X6_rows (QF g (some (.int res.1)) K P res.2 0 0) 6 K P V 0 0 35 [some (.ref l0), some (.int l1), some (.int l2), some (.int l3), some (.int l4), some (.int l5)] [] := by
  intro n
  induction n with
  | zero => intro l0 l1 l2 l3 l4 l5 V hf; rw [f_X6_rows_35] at hf; cases hf
  | succ n ih =>
    intro l0 l1 l2 l3 l4 l5 V hf
    rw [f_X6_rows_35] at hf
    refine j_iload (q := 37) h dX6_rows_35 rfl rfl ?_
    refine j_if_eq (q := 40) 91 h dX6_rows_37 (by decide) rfl hf (fun hf => ?_) (fun hf => ?_)
    · exact j_sub (lsub_s (lsub_s (lsub_s (lsub_s (lsub_n (lsub_n lsub_0)))))) (w_X6_rows_91 h hk17 hf)
    · refine j_iload (q := 42) h dX6_rows_40 rfl rfl ?_
      refine j_sipush (q := 45) (625) h dX6_rows_42 ks_625 rfl ?_
      refine j_icmp_ge (q := 48) 91 h dX6_rows_45 (by decide) rfl hf (fun hf => ?_) (fun hf => ?_)
      · exact j_sub (lsub_s (lsub_s (lsub_s (lsub_s (lsub_n (lsub_n lsub_0)))))) (w_X6_rows_91 h hk17 hf)
      · refine j_aload_n (q := 49) h dX6_rows_48 rfl rfl ?_
        refine j_aload_n (q := 50) h dX6_rows_49 rfl rfl ?_
        refine j_gR (q := 53) h uin_X6 rfl rfl (by decide) rfl fl_X6_44 dX6_rows_50 rfl hf (fun b1 hf => ?_)
        refine j_cVi (q := 56) (As := [.ref _]) h rfl hf (fun _ hx => ct_X6_readsPadWholly _ _ _ hx) ml_X6_150 vw_X6_readsPadWholly rf_X6_rows_X6_readsPadWholly ⟨Nat.zero_le _, Nat.zero_le _⟩ (Nat.le_of_ble_eq_true rfl) dX6_rows_53 rfl (fun _ _ hf => ?_)
        refine j_if_eq (q := 59) 75 h dX6_rows_56 (by decide) rfl hf (fun hf => ?_) (fun hf => ?_)
        · exact j_sub (lsub_s (lsub_s (lsub_s (lsub_s (lsub_n (lsub_s lsub_0)))))) (w_X6_rows_75 h hk17 ih hf)
        · refine j_iload_n (q := 60) h dX6_rows_59 rfl rfl ?_
          refine j_iload_n (q := 61) h dX6_rows_60 rfl rfl ?_
          refine j_icmp_ne (q := 64) 72 h dX6_rows_61 (by decide) rfl hf (fun hf => ?_) (fun hf => ?_)
          · refine j_iinc (q := 75) _ [_, _, _, _, _, _] h dX6_rows_72 rfl (by decide) rfl (kc_1 _) rfl rfl ?_
            exact j_sub (lsub_s (lsub_s (lsub_s (lsub_s (lsub_n (lsub_s lsub_0)))))) (w_X6_rows_75 h hk17 ih hf)
          · refine j_aload_n (q := 65) h dX6_rows_64 rfl rfl ?_
            refine j_gR (q := 68) h uin_X6 rfl rfl (by decide) rfl fl_X6_44 dX6_rows_65 rfl hf (fun b4 hf => ?_)
            refine j_cSi (q := 71) (As := [.ref _]) h rfl hf (fun _ hx => ct_X6_asDigits _ _ _ hx) ml_X6_154 sw_X6_asDigits rf_X6_rows_X6_asDigits ⟨Nat.zero_le _, Nat.zero_le _⟩ (Nat.le_of_ble_eq_true rfl) dX6_rows_68 rfl (fun _ _ hf => ?_)
            exact j_iret h dX6_rows_71 hf
set_option maxRecDepth 20000 in
theorem w_X6_rows_17 {g : GT} {K : KT} {P : PT} {res : Int32 × VT} (h : OK g RX6 cX6_rows 6 (some .int)) : ∀ (n : Nat) (l0 : Nat) (l1 : Int32) (l2 : Int32) (l3 : Int32) (V : VT), f_X6_rows_17 K P n l0 l1 l2 l3 V = some res → J g rm_X6_rows (QF g (some (.int res.1)) K P res.2 0 0) 6 K P V 0 0 17 [some (.ref l0), some (.int l1), some (.int l2), some (.int l3), none, none] [] := by
  intro n
  induction n with
  | zero => intro l0 l1 l2 l3 V hf; rw [f_X6_rows_17] at hf; cases hf
  | succ n ih =>
    intro l0 l1 l2 l3 V hf
    rw [f_X6_rows_17] at hf
    refine j_iload_n (q := 18) h dX6_rows_17 rfl rfl ?_
    refine j_iconst (q := 19) (3) h dX6_rows_18 ki_3 rfl ?_
    refine j_icmp_gt (q := 22) 97 h dX6_rows_19 (by decide) rfl hf (fun hf => ?_) (fun hf => ?_)
    · refine j_iload_n (q := 98) h dX6_rows_97 rfl rfl ?_
      refine j_iconst (q := 99) (-1) h dX6_rows_98 ki_m1 rfl ?_
      refine j_icmp_ne (q := 102) 106 h dX6_rows_99 (by decide) rfl hf (fun hf => ?_) (fun hf => ?_)
      · refine j_bipush (q := 108) (-6) h dX6_rows_106 kb_m6 rfl ?_
        exact j_iret h dX6_rows_108 hf
      · refine j_iload_n (q := 103) h dX6_rows_102 rfl rfl ?_
        refine j_goto 108 h dX6_rows_103 (by decide) ?_
        exact j_iret h dX6_rows_108 hf
    · refine j_aload_n (q := 23) h dX6_rows_22 rfl rfl ?_
      refine j_gR (q := 26) h uin_X6 rfl rfl (by decide) rfl fl_X6_44 dX6_rows_23 rfl hf (fun b1 hf => ?_)
      refine j_iload_n (q := 27) h dX6_rows_26 rfl rfl ?_
      refine j_cVi (q := 30) (As := [.int _]) h rfl hf (fun _ hx => ct_X4_fillZeros _ _ _ hx) ml_X6_147 vw_X4_fillZeros rf_X6_rows_X4_fillZeros ⟨Nat.zero_le _, Nat.zero_le _⟩ (Nat.le_of_ble_eq_true rfl) dX6_rows_27 rfl (fun _ _ hf => ?_)
      refine j_istore (q := 32) [_, _, _, _, _, _] h dX6_rows_30 rfl (by decide) rfl rfl ?_
      refine j_iconst (q := 33) (0) h dX6_rows_32 ki_0 rfl ?_
      refine j_istore (q := 35) [_, _, _, _, _, _] h dX6_rows_33 rfl (by decide) rfl rfl ?_
      exact j_sub (lsub_s (lsub_s (lsub_s (lsub_s (lsub_s (lsub_s lsub_0)))))) (w_X6_rows_35 h ih FU _ _ _ _ _ _ _ hf)
set_option maxRecDepth 20000 in
theorem w_X6_rows_0 {g : GT} {K : KT} {P : PT} {res : Int32 × VT} (h : OK g RX6 cX6_rows 6 (some .int)) {l0 : Nat} {l1 : Int32} {V : VT} (hf : f_X6_rows K P l0 l1 V = some res) : J g rm_X6_rows (QF g (some (.int res.1)) K P res.2 0 0) 6 K P V 0 0 0 [some (.ref l0), some (.int l1), none, none, none, none] [] := by
  rw [f_X6_rows] at hf
  refine j_aload_n (q := 1) h dX6_rows_0 rfl rfl ?_
  refine j_gR (q := 4) h uin_X6 rfl rfl (by decide) rfl fl_X6_14 dX6_rows_1 rfl hf (fun b1 hf => ?_)
  refine j_cVi (q := 7) (As := []) h rfl hf (fun _ hx => ct_X4_size _ _ _ hx) ml_X6_54 vw_X4_size rf_X6_rows_X4_size ⟨Nat.zero_le _, Nat.zero_le _⟩ (Nat.le_of_ble_eq_true rfl) dX6_rows_4 rfl (fun _ _ hf => ?_)
  refine j_if_ne (q := 10) 13 h dX6_rows_7 (by decide) rfl hf (fun hf => ?_) (fun hf => ?_)
  · refine j_iconst (q := 14) (0) h dX6_rows_13 ki_0 rfl ?_
    refine j_istore_n (q := 15) [_, _, _, _, _, _] h dX6_rows_14 rfl (by decide) rfl rfl ?_
    refine j_iconst (q := 16) (1) h dX6_rows_15 ki_1 rfl ?_
    refine j_istore_n (q := 17) [_, _, _, _, _, _] h dX6_rows_16 rfl (by decide) rfl rfl ?_
    exact j_sub (lsub_s (lsub_s (lsub_s (lsub_s (lsub_n (lsub_n lsub_0)))))) (w_X6_rows_17 h FU _ _ _ _ _ hf)
  · refine j_bipush (q := 12) (-3) h dX6_rows_10 kb_m3 rfl ?_
    exact j_iret h dX6_rows_12 hf
theorem ct_X6_rows (l : Launch) (D : va_G) (T : TT) {K : KT} {P : PT} {l0 : Nat} {l1 : Int32} {V : VT} {res : Int32 × VT} (hf : f_X6_rows K P l0 l1 V = some res) : CT l D T yX6_rows cX6_rows 6 (some .int) rm_X6_rows K P V [.ref l0, .int l1] (some (.int res.1)) res.2 :=
  fun _ => CT_of pn_X6 (cat_a (cat_i cat_0)) (Nat.le_of_ble_eq_true rfl) [some (.ref l0), some (.int l1), none, none, none, none] rfl (fun _ _ _ h => w_X6_rows_0 h hf)
/-! QuotedLayers.lengthInOrder(LQuotedLayers$Row;)I -/
def rm_X6_lengthInOrder : Room := { frames := 4, cells := 0, slots := 0, locals := 96 }
theorem rf_X6_lengthInOrder_X3_putThrough : RF rm_X3_putThrough rm_X6_lengthInOrder 7 := ⟨⟨by decide, by decide⟩, rfl, rfl⟩
theorem rf_X6_lengthInOrder_X4_add : RF rm_X4_add rm_X6_lengthInOrder 2 := ⟨⟨by decide, by decide⟩, rfl, rfl⟩
theorem rf_X6_lengthInOrder_X4_at : RF rm_X4_at rm_X6_lengthInOrder 2 := ⟨⟨by decide, by decide⟩, rfl, rfl⟩
theorem rf_X6_lengthInOrder_X4_clear : RF rm_X4_clear rm_X6_lengthInOrder 1 := ⟨⟨by decide, by decide⟩, rfl, rfl⟩
theorem rf_X6_lengthInOrder_X4_size : RF rm_X4_size rm_X6_lengthInOrder 1 := ⟨⟨by decide, by decide⟩, rfl, rfl⟩
def f_X6_lengthInOrder_9 (K : KT) (P : PT) : Nat → Nat → Nat → Int32 → VT → Option (Int32 × VT)
  | 0, _, _, _, _ => none
  | n + 1, l0, l1, l2, V => cV K l1 2 (f_X4_size K P l1 V) fun x2 V1 => if l2 < x2 then (gR K P l0 4 6 fun b10 => gR K P l0 4 1 fun b11 => gR K P b11 3 2 fun b12 => cV K l1 2 (f_X4_at K P l1 l2 V1) fun x14 V13 => cV K b12 2 (f_X4_at K P b12 x14 V13) fun x16 V15 => cV K b10 2 (f_X4_add K P b10 x16 V15) fun u18 V17 => (f_X6_lengthInOrder_9 K P n) l0 l1 (l2 + (1 : Int32)) V17) else (gR K P l0 4 4 fun b3 => gR K P l0 4 1 fun b4 => gR K P l0 4 6 fun b5 => gR K P l0 4 1 fun b6 => gR K P b6 3 3 fun b7 => cV K b3 1 (f_X3_putThrough K P b3 b4 b5 b7 ((-6 : Int32)) V1) fun x9 V8 => some (x9, V8))
def f_X6_lengthInOrder (K : KT) (P : PT) (l0 : Nat) (l1 : Nat) (V : VT) : Option (Int32 × VT) :=
  gR K P l0 4 6 fun b1 => cV K b1 2 (f_X4_clear K P b1 V) fun u3 V2 => f_X6_lengthInOrder_9 K P FU l0 l1 ((0 : Int32)) V2
set_option maxRecDepth 20000 in
theorem w_X6_lengthInOrder_9 {g : GT} {K : KT} {P : PT} {res : Int32 × VT} (h : OK g RX6 cX6_lengthInOrder 3 (some .int)) : ∀ (n : Nat) (l0 : Nat) (l1 : Nat) (l2 : Int32) (V : VT), f_X6_lengthInOrder_9 K P n l0 l1 l2 V = some res → J g rm_X6_lengthInOrder (QF g (some (.int res.1)) K P res.2 0 0) 3 K P V 0 0 9 [some (.ref l0), some (.ref l1), some (.int l2)] [] := by
  intro n
  induction n with
  | zero => intro l0 l1 l2 V hf; rw [f_X6_lengthInOrder_9] at hf; cases hf
  | succ n ih =>
    intro l0 l1 l2 V hf
    rw [f_X6_lengthInOrder_9] at hf
    refine j_iload_n (q := 10) h dX6_lengthInOrder_9 rfl rfl ?_
    refine j_aload_n (q := 11) h dX6_lengthInOrder_10 rfl rfl ?_
    refine j_cVi (q := 14) (As := []) h rfl hf (fun _ hx => ct_X4_size _ _ _ hx) ml_X6_54 vw_X4_size rf_X6_lengthInOrder_X4_size ⟨Nat.zero_le _, Nat.zero_le _⟩ (Nat.le_of_ble_eq_true rfl) dX6_lengthInOrder_11 rfl (fun _ _ hf => ?_)
    refine j_icmp_ge (q := 17) 45 h dX6_lengthInOrder_14 (by decide) rfl hf (fun hf => ?_) (fun hf => ?_)
    · refine j_aload_n (q := 46) h dX6_lengthInOrder_45 rfl rfl ?_
      refine j_gR (q := 49) h uin_X6 rfl rfl (by decide) rfl fl_X6_34 dX6_lengthInOrder_46 rfl hf (fun b3 hf => ?_)
      refine j_aload_n (q := 50) h dX6_lengthInOrder_49 rfl rfl ?_
      refine j_gR (q := 53) h uin_X6 rfl rfl (by decide) rfl fl_X6_21 dX6_lengthInOrder_50 rfl hf (fun b4 hf => ?_)
      refine j_aload_n (q := 54) h dX6_lengthInOrder_53 rfl rfl ?_
      refine j_gR (q := 57) h uin_X6 rfl rfl (by decide) rfl fl_X6_41 dX6_lengthInOrder_54 rfl hf (fun b5 hf => ?_)
      refine j_aload_n (q := 58) h dX6_lengthInOrder_57 rfl rfl ?_
      refine j_gR (q := 61) h uin_X6 rfl rfl (by decide) rfl fl_X6_21 dX6_lengthInOrder_58 rfl hf (fun b6 hf => ?_)
      refine j_gR (q := 64) h uin_X5 rfl rfl (by decide) rfl fl_X6_96 dX6_lengthInOrder_61 rfl hf (fun b7 hf => ?_)
      refine j_bipush (q := 66) (-6) h dX6_lengthInOrder_64 kb_m6 rfl ?_
      refine j_cVi (q := 69) (As := [.ref _, .ref _, .ref _, .int _]) h rfl hf (fun _ hx => ct_X3_putThrough _ _ _ hx) ml_X6_106 vw_X3_putThrough rf_X6_lengthInOrder_X3_putThrough ⟨Nat.zero_le _, Nat.zero_le _⟩ (Nat.le_of_ble_eq_true rfl) dX6_lengthInOrder_66 rfl (fun _ _ hf => ?_)
      exact j_iret h dX6_lengthInOrder_69 hf
    · refine j_aload_n (q := 18) h dX6_lengthInOrder_17 rfl rfl ?_
      refine j_gR (q := 21) h uin_X6 rfl rfl (by decide) rfl fl_X6_41 dX6_lengthInOrder_18 rfl hf (fun b10 hf => ?_)
      refine j_aload_n (q := 22) h dX6_lengthInOrder_21 rfl rfl ?_
      refine j_gR (q := 25) h uin_X6 rfl rfl (by decide) rfl fl_X6_21 dX6_lengthInOrder_22 rfl hf (fun b11 hf => ?_)
      refine j_gR (q := 28) h uin_X5 rfl rfl (by decide) rfl fl_X6_90 dX6_lengthInOrder_25 rfl hf (fun b12 hf => ?_)
      refine j_aload_n (q := 29) h dX6_lengthInOrder_28 rfl rfl ?_
      refine j_iload_n (q := 30) h dX6_lengthInOrder_29 rfl rfl ?_
      refine j_cVi (q := 33) (As := [.int _]) h rfl hf (fun _ hx => ct_X4_at _ _ _ hx) ml_X6_114 vw_X4_at rf_X6_lengthInOrder_X4_at ⟨Nat.zero_le _, Nat.zero_le _⟩ (Nat.le_of_ble_eq_true rfl) dX6_lengthInOrder_30 rfl (fun _ _ hf => ?_)
      refine j_cVi (q := 36) (As := [.int _]) h rfl hf (fun _ hx => ct_X4_at _ _ _ hx) ml_X6_114 vw_X4_at rf_X6_lengthInOrder_X4_at ⟨Nat.zero_le _, Nat.zero_le _⟩ (Nat.le_of_ble_eq_true rfl) dX6_lengthInOrder_33 rfl (fun _ _ hf => ?_)
      refine j_cVv (q := 39) (As := [.int _]) h rfl hf (fun _ hx => ct_X4_add _ _ _ hx) ml_X6_58 vw_X4_add rf_X6_lengthInOrder_X4_add ⟨Nat.zero_le _, Nat.zero_le _⟩ (Nat.le_of_ble_eq_true rfl) dX6_lengthInOrder_36 rfl (fun _ _ hf => ?_)
      refine j_iinc (q := 42) _ [_, _, _] h dX6_lengthInOrder_39 rfl (by decide) rfl (kc_1 _) rfl rfl ?_
      refine j_goto 9 h dX6_lengthInOrder_42 (by decide) ?_
      exact j_sub (lsub_s (lsub_s (lsub_s lsub_0))) (ih _ _ _ _ hf)
set_option maxRecDepth 20000 in
theorem w_X6_lengthInOrder_0 {g : GT} {K : KT} {P : PT} {res : Int32 × VT} (h : OK g RX6 cX6_lengthInOrder 3 (some .int)) {l0 : Nat} {l1 : Nat} {V : VT} (hf : f_X6_lengthInOrder K P l0 l1 V = some res) : J g rm_X6_lengthInOrder (QF g (some (.int res.1)) K P res.2 0 0) 3 K P V 0 0 0 [some (.ref l0), some (.ref l1), none] [] := by
  rw [f_X6_lengthInOrder] at hf
  refine j_aload_n (q := 1) h dX6_lengthInOrder_0 rfl rfl ?_
  refine j_gR (q := 4) h uin_X6 rfl rfl (by decide) rfl fl_X6_41 dX6_lengthInOrder_1 rfl hf (fun b1 hf => ?_)
  refine j_cVv (q := 7) (As := []) h rfl hf (fun _ hx => ct_X4_clear _ _ _ hx) ml_X6_61 vw_X4_clear rf_X6_lengthInOrder_X4_clear ⟨Nat.zero_le _, Nat.zero_le _⟩ (Nat.le_of_ble_eq_true rfl) dX6_lengthInOrder_4 rfl (fun _ _ hf => ?_)
  refine j_iconst (q := 8) (0) h dX6_lengthInOrder_7 ki_0 rfl ?_
  refine j_istore_n (q := 9) [_, _, _] h dX6_lengthInOrder_8 rfl (by decide) rfl rfl ?_
  exact j_sub (lsub_s (lsub_s (lsub_s lsub_0))) (w_X6_lengthInOrder_9 h FU _ _ _ _ hf)
theorem ct_X6_lengthInOrder (l : Launch) (D : va_G) (T : TT) {K : KT} {P : PT} {l0 : Nat} {l1 : Nat} {V : VT} {res : Int32 × VT} (hf : f_X6_lengthInOrder K P l0 l1 V = some res) : CT l D T yX6_lengthInOrder cX6_lengthInOrder 3 (some .int) rm_X6_lengthInOrder K P V [.ref l0, .ref l1] (some (.int res.1)) res.2 :=
  fun _ => CT_of pn_X6 (cat_a (cat_a cat_0)) (Nat.le_of_ble_eq_true rfl) [some (.ref l0), some (.ref l1), none] rfl (fun _ _ _ h => w_X6_lengthInOrder_0 h hf)
/-! QuotedLayers.findShortestOrder()I -/
def rm_X6_findShortestOrder : Room := { frames := 5, cells := 0, slots := 0, locals := 118 }
theorem rf_X6_findShortestOrder_X0_nextOrder : RF rm_X0_nextOrder rm_X6_findShortestOrder 3 := ⟨⟨by decide, by decide⟩, rfl, rfl⟩
theorem rf_X6_findShortestOrder_X4_add : RF rm_X4_add rm_X6_findShortestOrder 2 := ⟨⟨by decide, by decide⟩, rfl, rfl⟩
theorem rf_X6_findShortestOrder_X4_clear : RF rm_X4_clear rm_X6_findShortestOrder 1 := ⟨⟨by decide, by decide⟩, rfl, rfl⟩
theorem rf_X6_findShortestOrder_X4_copyFrom : RF rm_X4_copyFrom rm_X6_findShortestOrder 2 := ⟨⟨by decide, by decide⟩, rfl, rfl⟩
theorem rf_X6_findShortestOrder_X4_size : RF rm_X4_size rm_X6_findShortestOrder 1 := ⟨⟨by decide, by decide⟩, rfl, rfl⟩
theorem rf_X6_findShortestOrder_X6_lengthInOrder : RF rm_X6_lengthInOrder rm_X6_findShortestOrder 3 := ⟨⟨by decide, by decide⟩, rfl, rfl⟩
def f_X6_findShortestOrder_116 (K : KT) (P : PT) (k65 : Nat → Int32 → Int32 → Int32 → VT → Option (Int32 × VT)) (l0 : Nat) (l1 : Int32) (l3 : Int32) (V : VT) : Option (Int32 × VT) :=
  gR K P l0 4 7 fun b1 => cS (f_X0_nextOrder K P b1 V) fun x3 V2 => k65 l0 l1 x3 (l3 + (1 : Int32)) V2
def f_X6_findShortestOrder_102 (K : KT) (P : PT) (k65 : Nat → Int32 → Int32 → Int32 → VT → Option (Int32 × VT)) (l0 : Nat) (l3 : Int32) (l4 : Int32) (V : VT) : Option (Int32 × VT) :=
  gR K P l0 4 8 fun b1 => gR K P l0 4 7 fun b2 => cV K b1 2 (f_X4_copyFrom K P b1 b2 V) fun u4 V3 => f_X6_findShortestOrder_116 K P k65 l0 l4 l3 V3
def f_X6_findShortestOrder_65 (K : KT) (P : PT) : Nat → Nat → Int32 → Int32 → Int32 → VT → Option (Int32 × VT)
  | 0, _, _, _, _, _ => none
  | n + 1, l0, l1, l2, l3, V => if l2 = 0 then (some (l1, V)) else (if l3 < ((120 : Int32)) then (gR K P l0 4 7 fun b1 => cV K l0 4 (f_X6_lengthInOrder K P l0 b1 V) fun x3 V2 => if x3 < 0 then (f_X6_findShortestOrder_116 K P (f_X6_findShortestOrder_65 K P n) l0 l1 l3 V2) else (if l1 = ((-6 : Int32)) then (f_X6_findShortestOrder_102 K P (f_X6_findShortestOrder_65 K P n) l0 l3 x3 V2) else (if x3 < l1 then (f_X6_findShortestOrder_102 K P (f_X6_findShortestOrder_65 K P n) l0 l3 x3 V2) else (f_X6_findShortestOrder_116 K P (f_X6_findShortestOrder_65 K P n) l0 l1 l3 V2)))) else (some (l1, V)))
def f_X6_findShortestOrder_62 (K : KT) (P : PT) (l0 : Nat) (l1 : Int32) (s0 : Int32) (V : VT) : Option (Int32 × VT) :=
  f_X6_findShortestOrder_65 K P FU l0 l1 s0 ((0 : Int32)) V
def f_X6_findShortestOrder_19 (K : KT) (P : PT) : Nat → Nat → Int32 → Int32 → VT → Option (Int32 × VT)
  | 0, _, _, _, _ => none
  | n + 1, l0, l1, l2, V => gR K P l0 4 1 fun b1 => gR K P b1 3 2 fun b2 => cV K b2 2 (f_X4_size K P b2 V) fun x4 V3 => if l2 < x4 then (gR K P l0 4 7 fun b8 => cV K b8 2 (f_X4_add K P b8 l2 V3) fun u10 V9 => (f_X6_findShortestOrder_19 K P n) l0 l1 (l2 + (1 : Int32)) V9) else (gR K P l0 4 7 fun b5 => cV K b5 2 (f_X4_size K P b5 V3) fun x7 V6 => if 0 < x7 then (f_X6_findShortestOrder_62 K P l0 l1 ((1 : Int32)) V6) else (f_X6_findShortestOrder_62 K P l0 l1 ((0 : Int32)) V6))
def f_X6_findShortestOrder (K : KT) (P : PT) (l0 : Nat) (V : VT) : Option (Int32 × VT) :=
  gR K P l0 4 8 fun b1 => cV K b1 2 (f_X4_clear K P b1 V) fun u3 V2 => gR K P l0 4 7 fun b4 => cV K b4 2 (f_X4_clear K P b4 V2) fun u6 V5 => f_X6_findShortestOrder_19 K P FU l0 ((-6 : Int32)) ((0 : Int32)) V5
set_option maxRecDepth 20000 in
theorem w_X6_findShortestOrder_116 {g : GT} {K : KT} {P : PT} {res : Int32 × VT} (h : OK g RX6 cX6_findShortestOrder 5 (some .int)) {k65 : Nat → Int32 → Int32 → Int32 → VT → Option (Int32 × VT)} (hk65 : ∀ (l0 : Nat) (l1 : Int32) (l2 : Int32) (l3 : Int32) (V : VT), k65 l0 l1 l2 l3 V = some res → J g rm_X6_findShortestOrder (QF g (some (.int res.1)) K P res.2 0 0) 5 K P V 0 0 65 [some (.ref l0), some (.int l1), some (.int l2), some (.int l3), none] []) {l0 : Nat} {l1 : Int32} {l3 : Int32} {V : VT} (hf : f_X6_findShortestOrder_116 K P k65 l0 l1 l3 V = some res) : J g rm_X6_findShortestOrder (QF g (some (.int res.1)) K P res.2 0 0) 5 K P V 0 0 116 [some (.ref l0), some (.int l1), none, some (.int l3), none] [] := by
  rw [f_X6_findShortestOrder_116] at hf
  refine j_aload_n (q := 117) h dX6_findShortestOrder_116 rfl rfl ?_
  refine j_gR (q := 120) h uin_X6 rfl rfl (by decide) rfl fl_X6_44 dX6_findShortestOrder_117 rfl hf (fun b1 hf => ?_)
  refine j_cSi (q := 123) (As := [.ref _]) h rfl hf (fun _ hx => ct_X0_nextOrder _ _ _ hx) ml_X6_196 sw_X0_nextOrder rf_X6_findShortestOrder_X0_nextOrder ⟨Nat.zero_le _, Nat.zero_le _⟩ (Nat.le_of_ble_eq_true rfl) dX6_findShortestOrder_120 rfl (fun _ _ hf => ?_)
  refine j_istore_n (q := 124) [_, _, _, _, _] h dX6_findShortestOrder_123 rfl (by decide) rfl rfl ?_
  refine j_iinc (q := 127) _ [_, _, _, _, _] h dX6_findShortestOrder_124 rfl (by decide) rfl (kc_1 _) rfl rfl ?_
  refine j_goto 65 h dX6_findShortestOrder_127 (by decide) ?_
  exact j_sub (lsub_s (lsub_s (lsub_s (lsub_s (lsub_n lsub_0))))) (hk65 _ _ _ _ _ hf)
set_option maxRecDepth 20000 in
theorem w_X6_findShortestOrder_102 {g : GT} {K : KT} {P : PT} {res : Int32 × VT} (h : OK g RX6 cX6_findShortestOrder 5 (some .int)) {k65 : Nat → Int32 → Int32 → Int32 → VT → Option (Int32 × VT)} (hk65 : ∀ (l0 : Nat) (l1 : Int32) (l2 : Int32) (l3 : Int32) (V : VT), k65 l0 l1 l2 l3 V = some res → J g rm_X6_findShortestOrder (QF g (some (.int res.1)) K P res.2 0 0) 5 K P V 0 0 65 [some (.ref l0), some (.int l1), some (.int l2), some (.int l3), none] []) {l0 : Nat} {l3 : Int32} {l4 : Int32} {V : VT} (hf : f_X6_findShortestOrder_102 K P k65 l0 l3 l4 V = some res) : J g rm_X6_findShortestOrder (QF g (some (.int res.1)) K P res.2 0 0) 5 K P V 0 0 102 [some (.ref l0), none, none, some (.int l3), some (.int l4)] [] := by
  rw [f_X6_findShortestOrder_102] at hf
  refine j_iload (q := 104) h dX6_findShortestOrder_102 rfl rfl ?_
  refine j_istore_n (q := 105) [_, _, _, _, _] h dX6_findShortestOrder_104 rfl (by decide) rfl rfl ?_
  refine j_aload_n (q := 106) h dX6_findShortestOrder_105 rfl rfl ?_
  refine j_gR (q := 109) h uin_X6 rfl rfl (by decide) rfl fl_X6_47 dX6_findShortestOrder_106 rfl hf (fun b1 hf => ?_)
  refine j_aload_n (q := 110) h dX6_findShortestOrder_109 rfl rfl ?_
  refine j_gR (q := 113) h uin_X6 rfl rfl (by decide) rfl fl_X6_44 dX6_findShortestOrder_110 rfl hf (fun b2 hf => ?_)
  refine j_cVv (q := 116) (As := [.ref _]) h rfl hf (fun _ hx => ct_X4_copyFrom _ _ _ hx) ml_X6_99 vw_X4_copyFrom rf_X6_findShortestOrder_X4_copyFrom ⟨Nat.zero_le _, Nat.zero_le _⟩ (Nat.le_of_ble_eq_true rfl) dX6_findShortestOrder_113 rfl (fun _ _ hf => ?_)
  exact j_sub (lsub_s (lsub_s (lsub_n (lsub_s (lsub_n lsub_0))))) (w_X6_findShortestOrder_116 h hk65 hf)
set_option maxRecDepth 20000 in
theorem w_X6_findShortestOrder_65 {g : GT} {K : KT} {P : PT} {res : Int32 × VT} (h : OK g RX6 cX6_findShortestOrder 5 (some .int)) : ∀ (n : Nat) (l0 : Nat) (l1 : Int32) (l2 : Int32) (l3 : Int32) (V : VT), f_X6_findShortestOrder_65 K P n l0 l1 l2 l3 V = some res → J g rm_X6_findShortestOrder (QF g (some (.int res.1)) K P res.2 0 0) 5 K P V 0 0 65 [some (.ref l0), some (.int l1), some (.int l2), some (.int l3), none] [] := by
  intro n
  induction n with
  | zero => intro l0 l1 l2 l3 V hf; rw [f_X6_findShortestOrder_65] at hf; cases hf
  | succ n ih =>
    intro l0 l1 l2 l3 V hf
    rw [f_X6_findShortestOrder_65] at hf
    refine j_iload_n (q := 66) h dX6_findShortestOrder_65 rfl rfl ?_
    refine j_if_eq (q := 69) 130 h dX6_findShortestOrder_66 (by decide) rfl hf (fun hf => ?_) (fun hf => ?_)
    · refine j_iload_n (q := 131) h dX6_findShortestOrder_130 rfl rfl ?_
      exact j_iret h dX6_findShortestOrder_131 hf
    · refine j_iload_n (q := 70) h dX6_findShortestOrder_69 rfl rfl ?_
      refine j_bipush (q := 72) (120) h dX6_findShortestOrder_70 kb_120 rfl ?_
      refine j_icmp_ge (q := 75) 130 h dX6_findShortestOrder_72 (by decide) rfl hf (fun hf => ?_) (fun hf => ?_)
      · refine j_iload_n (q := 131) h dX6_findShortestOrder_130 rfl rfl ?_
        exact j_iret h dX6_findShortestOrder_131 hf
      · refine j_aload_n (q := 76) h dX6_findShortestOrder_75 rfl rfl ?_
        refine j_aload_n (q := 77) h dX6_findShortestOrder_76 rfl rfl ?_
        refine j_gR (q := 80) h uin_X6 rfl rfl (by decide) rfl fl_X6_44 dX6_findShortestOrder_77 rfl hf (fun b1 hf => ?_)
        refine j_cVi (q := 83) (As := [.ref _]) h rfl hf (fun _ hx => ct_X6_lengthInOrder _ _ _ hx) ml_X6_193 vw_X6_lengthInOrder rf_X6_findShortestOrder_X6_lengthInOrder ⟨Nat.zero_le _, Nat.zero_le _⟩ (Nat.le_of_ble_eq_true rfl) dX6_findShortestOrder_80 rfl (fun _ _ hf => ?_)
        refine j_istore (q := 85) [_, _, _, _, _] h dX6_findShortestOrder_83 rfl (by decide) rfl rfl ?_
        refine j_iload (q := 87) h dX6_findShortestOrder_85 rfl rfl ?_
        refine j_if_lt (q := 90) 116 h dX6_findShortestOrder_87 (by decide) rfl hf (fun hf => ?_) (fun hf => ?_)
        · exact j_sub (lsub_s (lsub_s (lsub_n (lsub_s (lsub_n lsub_0))))) (w_X6_findShortestOrder_116 h ih hf)
        · refine j_iload_n (q := 91) h dX6_findShortestOrder_90 rfl rfl ?_
          refine j_bipush (q := 93) (-6) h dX6_findShortestOrder_91 kb_m6 rfl ?_
          refine j_icmp_eq (q := 96) 102 h dX6_findShortestOrder_93 (by decide) rfl hf (fun hf => ?_) (fun hf => ?_)
          · exact j_sub (lsub_s (lsub_n (lsub_n (lsub_s (lsub_s lsub_0))))) (w_X6_findShortestOrder_102 h ih hf)
          · refine j_iload (q := 98) h dX6_findShortestOrder_96 rfl rfl ?_
            refine j_iload_n (q := 99) h dX6_findShortestOrder_98 rfl rfl ?_
            refine j_icmp_ge (q := 102) 116 h dX6_findShortestOrder_99 (by decide) rfl hf (fun hf => ?_) (fun hf => ?_)
            · exact j_sub (lsub_s (lsub_s (lsub_n (lsub_s (lsub_n lsub_0))))) (w_X6_findShortestOrder_116 h ih hf)
            · exact j_sub (lsub_s (lsub_n (lsub_n (lsub_s (lsub_s lsub_0))))) (w_X6_findShortestOrder_102 h ih hf)
set_option maxRecDepth 20000 in
theorem w_X6_findShortestOrder_62 {g : GT} {K : KT} {P : PT} {res : Int32 × VT} (h : OK g RX6 cX6_findShortestOrder 5 (some .int)) {l0 : Nat} {l1 : Int32} {s0 : Int32} {V : VT} (hf : f_X6_findShortestOrder_62 K P l0 l1 s0 V = some res) : J g rm_X6_findShortestOrder (QF g (some (.int res.1)) K P res.2 0 0) 5 K P V 0 0 62 [some (.ref l0), some (.int l1), none, none, none] [.int s0] := by
  rw [f_X6_findShortestOrder_62] at hf
  refine j_istore_n (q := 63) [_, _, _, _, _] h dX6_findShortestOrder_62 rfl (by decide) rfl rfl ?_
  refine j_iconst (q := 64) (0) h dX6_findShortestOrder_63 ki_0 rfl ?_
  refine j_istore_n (q := 65) [_, _, _, _, _] h dX6_findShortestOrder_64 rfl (by decide) rfl rfl ?_
  exact j_sub (lsub_s (lsub_s (lsub_s (lsub_s (lsub_n lsub_0))))) (w_X6_findShortestOrder_65 h FU _ _ _ _ _ hf)
set_option maxRecDepth 20000 in
theorem w_X6_findShortestOrder_19 {g : GT} {K : KT} {P : PT} {res : Int32 × VT} (h : OK g RX6 cX6_findShortestOrder 5 (some .int)) : ∀ (n : Nat) (l0 : Nat) (l1 : Int32) (l2 : Int32) (V : VT), f_X6_findShortestOrder_19 K P n l0 l1 l2 V = some res → J g rm_X6_findShortestOrder (QF g (some (.int res.1)) K P res.2 0 0) 5 K P V 0 0 19 [some (.ref l0), some (.int l1), some (.int l2), none, none] [] := by
  intro n
  induction n with
  | zero => intro l0 l1 l2 V hf; rw [f_X6_findShortestOrder_19] at hf; cases hf
  | succ n ih =>
    intro l0 l1 l2 V hf
    rw [f_X6_findShortestOrder_19] at hf
    refine j_iload_n (q := 20) h dX6_findShortestOrder_19 rfl rfl ?_
    refine j_aload_n (q := 21) h dX6_findShortestOrder_20 rfl rfl ?_
    refine j_gR (q := 24) h uin_X6 rfl rfl (by decide) rfl fl_X6_21 dX6_findShortestOrder_21 rfl hf (fun b1 hf => ?_)
    refine j_gR (q := 27) h uin_X5 rfl rfl (by decide) rfl fl_X6_90 dX6_findShortestOrder_24 rfl hf (fun b2 hf => ?_)
    refine j_cVi (q := 30) (As := []) h rfl hf (fun _ hx => ct_X4_size _ _ _ hx) ml_X6_54 vw_X4_size rf_X6_findShortestOrder_X4_size ⟨Nat.zero_le _, Nat.zero_le _⟩ (Nat.le_of_ble_eq_true rfl) dX6_findShortestOrder_27 rfl (fun _ _ hf => ?_)
    refine j_icmp_ge (q := 33) 47 h dX6_findShortestOrder_30 (by decide) rfl hf (fun hf => ?_) (fun hf => ?_)
    · refine j_aload_n (q := 48) h dX6_findShortestOrder_47 rfl rfl ?_
      refine j_gR (q := 51) h uin_X6 rfl rfl (by decide) rfl fl_X6_44 dX6_findShortestOrder_48 rfl hf (fun b5 hf => ?_)
      refine j_cVi (q := 54) (As := []) h rfl hf (fun _ hx => ct_X4_size _ _ _ hx) ml_X6_54 vw_X4_size rf_X6_findShortestOrder_X4_size ⟨Nat.zero_le _, Nat.zero_le _⟩ (Nat.le_of_ble_eq_true rfl) dX6_findShortestOrder_51 rfl (fun _ _ hf => ?_)
      refine j_if_le (q := 57) 61 h dX6_findShortestOrder_54 (by decide) rfl hf (fun hf => ?_) (fun hf => ?_)
      · refine j_iconst (q := 62) (0) h dX6_findShortestOrder_61 ki_0 rfl ?_
        exact j_sub (lsub_s (lsub_s (lsub_n (lsub_n (lsub_n lsub_0))))) (w_X6_findShortestOrder_62 h hf)
      · refine j_iconst (q := 58) (1) h dX6_findShortestOrder_57 ki_1 rfl ?_
        refine j_goto 62 h dX6_findShortestOrder_58 (by decide) ?_
        exact j_sub (lsub_s (lsub_s (lsub_n (lsub_n (lsub_n lsub_0))))) (w_X6_findShortestOrder_62 h hf)
    · refine j_aload_n (q := 34) h dX6_findShortestOrder_33 rfl rfl ?_
      refine j_gR (q := 37) h uin_X6 rfl rfl (by decide) rfl fl_X6_44 dX6_findShortestOrder_34 rfl hf (fun b8 hf => ?_)
      refine j_iload_n (q := 38) h dX6_findShortestOrder_37 rfl rfl ?_
      refine j_cVv (q := 41) (As := [.int _]) h rfl hf (fun _ hx => ct_X4_add _ _ _ hx) ml_X6_58 vw_X4_add rf_X6_findShortestOrder_X4_add ⟨Nat.zero_le _, Nat.zero_le _⟩ (Nat.le_of_ble_eq_true rfl) dX6_findShortestOrder_38 rfl (fun _ _ hf => ?_)
      refine j_iinc (q := 44) _ [_, _, _, _, _] h dX6_findShortestOrder_41 rfl (by decide) rfl (kc_1 _) rfl rfl ?_
      refine j_goto 19 h dX6_findShortestOrder_44 (by decide) ?_
      exact j_sub (lsub_s (lsub_s (lsub_s (lsub_n (lsub_n lsub_0))))) (ih _ _ _ _ hf)
set_option maxRecDepth 20000 in
theorem w_X6_findShortestOrder_0 {g : GT} {K : KT} {P : PT} {res : Int32 × VT} (h : OK g RX6 cX6_findShortestOrder 5 (some .int)) {l0 : Nat} {V : VT} (hf : f_X6_findShortestOrder K P l0 V = some res) : J g rm_X6_findShortestOrder (QF g (some (.int res.1)) K P res.2 0 0) 5 K P V 0 0 0 [some (.ref l0), none, none, none, none] [] := by
  rw [f_X6_findShortestOrder] at hf
  refine j_bipush (q := 2) (-6) h dX6_findShortestOrder_0 kb_m6 rfl ?_
  refine j_istore_n (q := 3) [_, _, _, _, _] h dX6_findShortestOrder_2 rfl (by decide) rfl rfl ?_
  refine j_aload_n (q := 4) h dX6_findShortestOrder_3 rfl rfl ?_
  refine j_gR (q := 7) h uin_X6 rfl rfl (by decide) rfl fl_X6_47 dX6_findShortestOrder_4 rfl hf (fun b1 hf => ?_)
  refine j_cVv (q := 10) (As := []) h rfl hf (fun _ hx => ct_X4_clear _ _ _ hx) ml_X6_61 vw_X4_clear rf_X6_findShortestOrder_X4_clear ⟨Nat.zero_le _, Nat.zero_le _⟩ (Nat.le_of_ble_eq_true rfl) dX6_findShortestOrder_7 rfl (fun _ _ hf => ?_)
  refine j_aload_n (q := 11) h dX6_findShortestOrder_10 rfl rfl ?_
  refine j_gR (q := 14) h uin_X6 rfl rfl (by decide) rfl fl_X6_44 dX6_findShortestOrder_11 rfl hf (fun b4 hf => ?_)
  refine j_cVv (q := 17) (As := []) h rfl hf (fun _ hx => ct_X4_clear _ _ _ hx) ml_X6_61 vw_X4_clear rf_X6_findShortestOrder_X4_clear ⟨Nat.zero_le _, Nat.zero_le _⟩ (Nat.le_of_ble_eq_true rfl) dX6_findShortestOrder_14 rfl (fun _ _ hf => ?_)
  refine j_iconst (q := 18) (0) h dX6_findShortestOrder_17 ki_0 rfl ?_
  refine j_istore_n (q := 19) [_, _, _, _, _] h dX6_findShortestOrder_18 rfl (by decide) rfl rfl ?_
  exact j_sub (lsub_s (lsub_s (lsub_s (lsub_n (lsub_n lsub_0))))) (w_X6_findShortestOrder_19 h FU _ _ _ _ hf)
theorem ct_X6_findShortestOrder (l : Launch) (D : va_G) (T : TT) {K : KT} {P : PT} {l0 : Nat} {V : VT} {res : Int32 × VT} (hf : f_X6_findShortestOrder K P l0 V = some res) : CT l D T yX6_findShortestOrder cX6_findShortestOrder 5 (some .int) rm_X6_findShortestOrder K P V [.ref l0] (some (.int res.1)) res.2 :=
  fun _ => CT_of pn_X6 (cat_a cat_0) (Nat.le_of_ble_eq_true rfl) [some (.ref l0), none, none, none, none] rfl (fun _ _ _ h => w_X6_findShortestOrder_0 h hf)
/-! QuotedLayers.order(I)I -/
def rm_X6_order : Room := { frames := 6, cells := 0, slots := 0, locals := 142 }
theorem rf_X6_order_X4_at : RF rm_X4_at rm_X6_order 2 := ⟨⟨by decide, by decide⟩, rfl, rfl⟩
theorem rf_X6_order_X6_findShortestOrder : RF rm_X6_findShortestOrder rm_X6_order 5 := ⟨⟨by decide, by decide⟩, rfl, rfl⟩
def f_X6_order (K : KT) (P : PT) (l0 : Nat) (l1 : Int32) (V : VT) : Option (Int32 × VT) :=
  cV K l0 4 (f_X6_findShortestOrder K P l0 V) fun x2 V1 => if l1 = ((-1 : Int32)) then (some (x2, V1)) else (gR K P l0 4 8 fun b3 => cV K b3 2 (f_X4_at K P b3 l1 V1) fun x5 V4 => some (x5, V4))
set_option maxRecDepth 20000 in
theorem w_X6_order_0 {g : GT} {K : KT} {P : PT} {res : Int32 × VT} (h : OK g RX6 cX6_order 3 (some .int)) {l0 : Nat} {l1 : Int32} {V : VT} (hf : f_X6_order K P l0 l1 V = some res) : J g rm_X6_order (QF g (some (.int res.1)) K P res.2 0 0) 3 K P V 0 0 0 [some (.ref l0), some (.int l1), none] [] := by
  rw [f_X6_order] at hf
  refine j_aload_n (q := 1) h dX6_order_0 rfl rfl ?_
  refine j_cVi (q := 4) (As := []) h rfl hf (fun _ hx => ct_X6_findShortestOrder _ _ _ hx) ml_X6_163 vw_X6_findShortestOrder rf_X6_order_X6_findShortestOrder ⟨Nat.zero_le _, Nat.zero_le _⟩ (Nat.le_of_ble_eq_true rfl) dX6_order_1 rfl (fun _ _ hf => ?_)
  refine j_istore_n (q := 5) [_, _, _] h dX6_order_4 rfl (by decide) rfl rfl ?_
  refine j_iload_n (q := 6) h dX6_order_5 rfl rfl ?_
  refine j_iconst (q := 7) (-1) h dX6_order_6 ki_m1 rfl ?_
  refine j_icmp_ne (q := 10) 14 h dX6_order_7 (by decide) rfl hf (fun hf => ?_) (fun hf => ?_)
  · refine j_aload_n (q := 15) h dX6_order_14 rfl rfl ?_
    refine j_gR (q := 18) h uin_X6 rfl rfl (by decide) rfl fl_X6_47 dX6_order_15 rfl hf (fun b3 hf => ?_)
    refine j_iload_n (q := 19) h dX6_order_18 rfl rfl ?_
    refine j_cVi (q := 22) (As := [.int _]) h rfl hf (fun _ hx => ct_X4_at _ _ _ hx) ml_X6_114 vw_X4_at rf_X6_order_X4_at ⟨Nat.zero_le _, Nat.zero_le _⟩ (Nat.le_of_ble_eq_true rfl) dX6_order_19 rfl (fun _ _ hf => ?_)
    exact j_iret h dX6_order_22 hf
  · refine j_iload_n (q := 11) h dX6_order_10 rfl rfl ?_
    refine j_goto 22 h dX6_order_11 (by decide) ?_
    exact j_iret h dX6_order_22 hf
theorem ct_X6_order (l : Launch) (D : va_G) (T : TT) {K : KT} {P : PT} {l0 : Nat} {l1 : Int32} {V : VT} {res : Int32 × VT} (hf : f_X6_order K P l0 l1 V = some res) : CT l D T yX6_order cX6_order 3 (some .int) rm_X6_order K P V [.ref l0, .int l1] (some (.int res.1)) res.2 :=
  fun _ => CT_of pn_X6 (cat_a (cat_i cat_0)) (Nat.le_of_ble_eq_true rfl) [some (.ref l0), some (.int l1), none] rfl (fun _ _ _ h => w_X6_order_0 h hf)
/-! QuotedLayers.isImage(I)Z -/
def rm_X6_isImage : Room := { frames := 0, cells := 0, slots := 0, locals := 0 }
def f_X6_isImage (K : KT) (P : PT) (l0 : Int32) (V : VT) : Option (Int32 × VT) :=
  if l0 < 0 then (rB ((0 : Int32)) V) else (if l0 < ((2 : Int32)) then (rB ((1 : Int32)) V) else (rB ((0 : Int32)) V))
set_option maxRecDepth 20000 in
theorem w_X6_isImage_0 {g : GT} {K : KT} {P : PT} {res : Int32 × VT} (h : OK g RX6 cX6_isImage 1 (some .boolean)) {l0 : Int32} {V : VT} (hf : f_X6_isImage K P l0 V = some res) : J g rm_X6_isImage (QF g (some (.int res.1)) K P res.2 0 0) 1 K P V 0 0 0 [some (.int l0)] [] := by
  rw [f_X6_isImage] at hf
  refine j_iload_n (q := 1) h dX6_isImage_0 rfl rfl ?_
  refine j_if_lt (q := 4) 13 h dX6_isImage_1 (by decide) rfl hf (fun hf => ?_) (fun hf => ?_)
  · refine j_iconst (q := 14) (0) h dX6_isImage_13 ki_0 rfl ?_
    exact j_zret h dX6_isImage_14 hf
  · refine j_iload_n (q := 5) h dX6_isImage_4 rfl rfl ?_
    refine j_iconst (q := 6) (2) h dX6_isImage_5 ki_2 rfl ?_
    refine j_icmp_ge (q := 9) 13 h dX6_isImage_6 (by decide) rfl hf (fun hf => ?_) (fun hf => ?_)
    · refine j_iconst (q := 14) (0) h dX6_isImage_13 ki_0 rfl ?_
      exact j_zret h dX6_isImage_14 hf
    · refine j_iconst (q := 10) (1) h dX6_isImage_9 ki_1 rfl ?_
      refine j_goto 14 h dX6_isImage_10 (by decide) ?_
      exact j_zret h dX6_isImage_14 hf
theorem ct_X6_isImage (l : Launch) (D : va_G) (T : TT) {K : KT} {P : PT} {l0 : Int32} {V : VT} {res : Int32 × VT} (hf : f_X6_isImage K P l0 V = some res) : CT l D T yX6_isImage cX6_isImage 1 (some .boolean) rm_X6_isImage K P V [.int l0] (some (.int res.1)) res.2 :=
  fun _ => CT_of pn_X6 (cat_i cat_0) (Nat.le_of_ble_eq_true rfl) [some (.int l0)] rfl (fun _ _ _ h => w_X6_isImage_0 h hf)
/-! QuotedLayers.imageAt(I)LQuotedLayers$Stand; -/
def rm_X6_imageAt : Room := { frames := 0, cells := 0, slots := 0, locals := 0 }
def f_X6_imageAt (K : KT) (P : PT) (l0 : Nat) (l1 : Int32) (V : VT) : Option (Nat × VT) :=
  if l1 = 0 then (gR K P l0 4 2 fun b2 => some (b2, V)) else (gR K P l0 4 3 fun b1 => some (b1, V))
set_option maxRecDepth 20000 in
theorem w_X6_imageAt_0 {g : GT} {K : KT} {P : PT} {res : Nat × VT} (h : OK g RX6 cX6_imageAt 2 (some (.object "QuotedLayers$Stand"))) {l0 : Nat} {l1 : Int32} {V : VT} (hf : f_X6_imageAt K P l0 l1 V = some res) : J g rm_X6_imageAt (QF g (some (.ref res.1)) K P res.2 0 0) 2 K P V 0 0 0 [some (.ref l0), some (.int l1)] [] := by
  rw [f_X6_imageAt] at hf
  refine j_iload_n (q := 1) h dX6_imageAt_0 rfl rfl ?_
  refine j_if_ne (q := 4) 11 h dX6_imageAt_1 (by decide) rfl hf (fun hf => ?_) (fun hf => ?_)
  · refine j_aload_n (q := 12) h dX6_imageAt_11 rfl rfl ?_
    refine j_gR (q := 15) h uin_X6 rfl rfl (by decide) rfl fl_X6_28 dX6_imageAt_12 rfl hf (fun b1 hf => ?_)
    exact j_aret h dX6_imageAt_15 hf
  · refine j_aload_n (q := 5) h dX6_imageAt_4 rfl rfl ?_
    refine j_gR (q := 8) h uin_X6 rfl rfl (by decide) rfl fl_X6_25 dX6_imageAt_5 rfl hf (fun b2 hf => ?_)
    refine j_goto 15 h dX6_imageAt_8 (by decide) ?_
    exact j_aret h dX6_imageAt_15 hf
theorem ct_X6_imageAt (l : Launch) (D : va_G) (T : TT) {K : KT} {P : PT} {l0 : Nat} {l1 : Int32} {V : VT} {res : Nat × VT} (hf : f_X6_imageAt K P l0 l1 V = some res) : CT l D T yX6_imageAt cX6_imageAt 2 (some (.object "QuotedLayers$Stand")) rm_X6_imageAt K P V [.ref l0, .int l1] (some (.ref res.1)) res.2 :=
  fun _ => CT_of pn_X6 (cat_a (cat_i cat_0)) (Nat.le_of_ble_eq_true rfl) [some (.ref l0), some (.int l1)] rfl (fun _ _ _ h => w_X6_imageAt_0 h hf)
/-! QuotedLayers.image(I)I -/
def rm_X6_image : Room := { frames := 5, cells := 0, slots := 0, locals := 108 }
theorem rf_X6_image_X5_copyFrom : RF rm_X5_copyFrom rm_X6_image 3 := ⟨⟨by decide, by decide⟩, rfl, rfl⟩
theorem rf_X6_image_X6_imageAt : RF rm_X6_imageAt rm_X6_image 2 := ⟨⟨by decide, by decide⟩, rfl, rfl⟩
theorem rf_X6_image_X6_isImage : RF rm_X6_isImage rm_X6_image 1 := ⟨⟨by decide, by decide⟩, rfl, rfl⟩
def f_X6_image (K : KT) (P : PT) (l0 : Nat) (l1 : Int32) (V : VT) : Option (Int32 × VT) :=
  cS (f_X6_isImage K P l1 V) fun x2 V1 => if x2 = 0 then (some ((-2 : Int32), V1)) else (cV K l0 4 (f_X6_imageAt K P l0 l1 V1) fun b4 V3 => gR K P l0 4 1 fun b5 => cV K b4 3 (f_X5_copyFrom K P b4 b5 V3) fun u7 V6 => sB K V6 b4 3 4 ((1 : Int32)) fun V8 => some ((1 : Int32), V8))
set_option maxRecDepth 20000 in
theorem w_X6_image_0 {g : GT} {K : KT} {P : PT} {res : Int32 × VT} (h : OK g RX6 cX6_image 3 (some .int)) {l0 : Nat} {l1 : Int32} {V : VT} (hf : f_X6_image K P l0 l1 V = some res) : J g rm_X6_image (QF g (some (.int res.1)) K P res.2 0 0) 3 K P V 0 0 0 [some (.ref l0), some (.int l1), none] [] := by
  rw [f_X6_image] at hf
  refine j_iload_n (q := 1) h dX6_image_0 rfl rfl ?_
  refine j_cSi (q := 4) (As := [.int _]) h rfl hf (fun _ hx => ct_X6_isImage _ _ _ hx) ml_X6_166 sw_X6_isImage rf_X6_image_X6_isImage ⟨Nat.zero_le _, Nat.zero_le _⟩ (Nat.le_of_ble_eq_true rfl) dX6_image_1 rfl (fun _ _ hf => ?_)
  refine j_if_ne (q := 7) 10 h dX6_image_4 (by decide) rfl hf (fun hf => ?_) (fun hf => ?_)
  · refine j_aload_n (q := 11) h dX6_image_10 rfl rfl ?_
    refine j_iload_n (q := 12) h dX6_image_11 rfl rfl ?_
    refine j_cVa (q := 15) (As := [.int _]) h rfl hf (fun _ hx => ct_X6_imageAt _ _ _ hx) ml_X6_169 vw_X6_imageAt rf_X6_image_X6_imageAt ⟨Nat.zero_le _, Nat.zero_le _⟩ (Nat.le_of_ble_eq_true rfl) dX6_image_12 rfl (fun b4 _ hf => ?_)
    refine j_astore_n (q := 16) [_, _, _] h dX6_image_15 rfl (by decide) rfl rfl ?_
    refine j_aload_n (q := 17) h dX6_image_16 rfl rfl ?_
    refine j_aload_n (q := 18) h dX6_image_17 rfl rfl ?_
    refine j_gR (q := 21) h uin_X6 rfl rfl (by decide) rfl fl_X6_21 dX6_image_18 rfl hf (fun b5 hf => ?_)
    refine j_cVv (q := 24) (As := [.ref _]) h rfl hf (fun _ hx => ct_X5_copyFrom _ _ _ hx) ml_X6_173 vw_X5_copyFrom rf_X6_image_X5_copyFrom ⟨Nat.zero_le _, Nat.zero_le _⟩ (Nat.le_of_ble_eq_true rfl) dX6_image_21 rfl (fun _ _ hf => ?_)
    refine j_aload_n (q := 25) h dX6_image_24 rfl rfl ?_
    refine j_iconst (q := 26) (1) h dX6_image_25 ki_1 rfl ?_
    refine j_sB (q := 29) h tyX5 tyX5_ok nmX5 uin_X5 rfl rfl (by decide) rfl rfl (by decide +kernel) fl_X6_176 dX6_image_26 rfl hf (fun hf => ?_)
    refine j_iconst (q := 30) (1) h dX6_image_29 ki_1 rfl ?_
    exact j_iret h dX6_image_30 hf
  · refine j_bipush (q := 9) (-2) h dX6_image_7 kb_m2 rfl ?_
    exact j_iret h dX6_image_9 hf
theorem ct_X6_image (l : Launch) (D : va_G) (T : TT) {K : KT} {P : PT} {l0 : Nat} {l1 : Int32} {V : VT} {res : Int32 × VT} (hf : f_X6_image K P l0 l1 V = some res) : CT l D T yX6_image cX6_image 3 (some .int) rm_X6_image K P V [.ref l0, .int l1] (some (.int res.1)) res.2 :=
  fun _ => CT_of pn_X6 (cat_a (cat_i cat_0)) (Nat.le_of_ble_eq_true rfl) [some (.ref l0), some (.int l1), none] rfl (fun _ _ _ h => w_X6_image_0 h hf)
/-! QuotedLayers.restore(I)I -/
def rm_X6_restore : Room := { frames := 5, cells := 0, slots := 0, locals := 108 }
theorem rf_X6_restore_X5_copyFrom : RF rm_X5_copyFrom rm_X6_restore 3 := ⟨⟨by decide, by decide⟩, rfl, rfl⟩
theorem rf_X6_restore_X6_imageAt : RF rm_X6_imageAt rm_X6_restore 2 := ⟨⟨by decide, by decide⟩, rfl, rfl⟩
theorem rf_X6_restore_X6_isImage : RF rm_X6_isImage rm_X6_restore 1 := ⟨⟨by decide, by decide⟩, rfl, rfl⟩
def f_X6_restore (K : KT) (P : PT) (l0 : Nat) (l1 : Int32) (V : VT) : Option (Int32 × VT) :=
  cS (f_X6_isImage K P l1 V) fun x2 V1 => if x2 = 0 then (some ((-2 : Int32), V1)) else (cV K l0 4 (f_X6_imageAt K P l0 l1 V1) fun b4 V3 => gI K V3 b4 3 4 fun x5 => if x5 = 0 then (some ((-3 : Int32), V3)) else (gR K P l0 4 1 fun b6 => cV K b6 3 (f_X5_copyFrom K P b6 b4 V3) fun u8 V7 => some ((1 : Int32), V7)))
set_option maxRecDepth 20000 in
theorem w_X6_restore_0 {g : GT} {K : KT} {P : PT} {res : Int32 × VT} (h : OK g RX6 cX6_restore 3 (some .int)) {l0 : Nat} {l1 : Int32} {V : VT} (hf : f_X6_restore K P l0 l1 V = some res) : J g rm_X6_restore (QF g (some (.int res.1)) K P res.2 0 0) 3 K P V 0 0 0 [some (.ref l0), some (.int l1), none] [] := by
  rw [f_X6_restore] at hf
  refine j_iload_n (q := 1) h dX6_restore_0 rfl rfl ?_
  refine j_cSi (q := 4) (As := [.int _]) h rfl hf (fun _ hx => ct_X6_isImage _ _ _ hx) ml_X6_166 sw_X6_isImage rf_X6_restore_X6_isImage ⟨Nat.zero_le _, Nat.zero_le _⟩ (Nat.le_of_ble_eq_true rfl) dX6_restore_1 rfl (fun _ _ hf => ?_)
  refine j_if_ne (q := 7) 10 h dX6_restore_4 (by decide) rfl hf (fun hf => ?_) (fun hf => ?_)
  · refine j_aload_n (q := 11) h dX6_restore_10 rfl rfl ?_
    refine j_iload_n (q := 12) h dX6_restore_11 rfl rfl ?_
    refine j_cVa (q := 15) (As := [.int _]) h rfl hf (fun _ hx => ct_X6_imageAt _ _ _ hx) ml_X6_169 vw_X6_imageAt rf_X6_restore_X6_imageAt ⟨Nat.zero_le _, Nat.zero_le _⟩ (Nat.le_of_ble_eq_true rfl) dX6_restore_12 rfl (fun b4 _ hf => ?_)
    refine j_astore_n (q := 16) [_, _, _] h dX6_restore_15 rfl (by decide) rfl rfl ?_
    refine j_aload_n (q := 17) h dX6_restore_16 rfl rfl ?_
    refine j_gI (q := 20) h uin_X5 rfl rfl (by decide) rfl fl_X6_176 dX6_restore_17 rfl hf (fun hf => ?_)
    refine j_if_ne (q := 23) 26 h dX6_restore_20 (by decide) rfl hf (fun hf => ?_) (fun hf => ?_)
    · refine j_aload_n (q := 27) h dX6_restore_26 rfl rfl ?_
      refine j_gR (q := 30) h uin_X6 rfl rfl (by decide) rfl fl_X6_21 dX6_restore_27 rfl hf (fun b6 hf => ?_)
      refine j_aload_n (q := 31) h dX6_restore_30 rfl rfl ?_
      refine j_cVv (q := 34) (As := [.ref _]) h rfl hf (fun _ hx => ct_X5_copyFrom _ _ _ hx) ml_X6_173 vw_X5_copyFrom rf_X6_restore_X5_copyFrom ⟨Nat.zero_le _, Nat.zero_le _⟩ (Nat.le_of_ble_eq_true rfl) dX6_restore_31 rfl (fun _ _ hf => ?_)
      refine j_iconst (q := 35) (1) h dX6_restore_34 ki_1 rfl ?_
      exact j_iret h dX6_restore_35 hf
    · refine j_bipush (q := 25) (-3) h dX6_restore_23 kb_m3 rfl ?_
      exact j_iret h dX6_restore_25 hf
  · refine j_bipush (q := 9) (-2) h dX6_restore_7 kb_m2 rfl ?_
    exact j_iret h dX6_restore_9 hf
theorem ct_X6_restore (l : Launch) (D : va_G) (T : TT) {K : KT} {P : PT} {l0 : Nat} {l1 : Int32} {V : VT} {res : Int32 × VT} (hf : f_X6_restore K P l0 l1 V = some res) : CT l D T yX6_restore cX6_restore 3 (some .int) rm_X6_restore K P V [.ref l0, .int l1] (some (.int res.1)) res.2 :=
  fun _ => CT_of pn_X6 (cat_a (cat_i cat_0)) (Nat.le_of_ble_eq_true rfl) [some (.ref l0), some (.int l1), none] rfl (fun _ _ _ h => w_X6_restore_0 h hf)
/-! QuotedLayers.told(I)I -/
def rm_X6_told : Room := { frames := 1, cells := 0, slots := 0, locals := 21 }
theorem rf_X6_told_X4_at : RF rm_X4_at rm_X6_told 2 := ⟨⟨by decide, by decide⟩, rfl, rfl⟩
theorem rf_X6_told_X4_size : RF rm_X4_size rm_X6_told 1 := ⟨⟨by decide, by decide⟩, rfl, rfl⟩
def f_X6_told_71 (K : KT) (P : PT) (l0 : Nat) (l1 : Int32) (V : VT) : Option (Int32 × VT) :=
  if l1 < ((20 : Int32)) then (some ((-2 : Int32), V)) else (if l1 < ((32 : Int32)) then (gR K P l0 4 1 fun b1 => gR K P b1 3 3 fun b2 => cV K b2 2 (f_X4_at K P b2 (l1 - ((20 : Int32))) V) fun x4 V3 => some (x4, V3)) else (some ((-2 : Int32), V)))
def f_X6_told (K : KT) (P : PT) (l0 : Nat) (l1 : Int32) (V : VT) : Option (Int32 × VT) :=
  if l1 = 0 then (gR K P l0 4 0 fun b13 => cV K b13 2 (f_X4_size K P b13 V) fun x15 V14 => some (x15, V14)) else (if l1 = ((1 : Int32)) then (gR K P l0 4 1 fun b9 => gR K P b9 3 3 fun b10 => cV K b10 2 (f_X4_size K P b10 V) fun x12 V11 => some (x12, V11)) else (if l1 = ((2 : Int32)) then (gR K P l0 4 1 fun b5 => gR K P b5 3 2 fun b6 => cV K b6 2 (f_X4_size K P b6 V) fun x8 V7 => some (x8, V7)) else (if l1 < ((10 : Int32)) then (f_X6_told_71 K P l0 l1 V) else (if l1 < ((15 : Int32)) then (gR K P l0 4 1 fun b1 => gR K P b1 3 2 fun b2 => cV K b2 2 (f_X4_at K P b2 (l1 - ((10 : Int32))) V) fun x4 V3 => some (x4, V3)) else (f_X6_told_71 K P l0 l1 V)))))
set_option maxRecDepth 20000 in
theorem w_X6_told_71 {g : GT} {K : KT} {P : PT} {res : Int32 × VT} (h : OK g RX6 cX6_told 2 (some .int)) {l0 : Nat} {l1 : Int32} {V : VT} (hf : f_X6_told_71 K P l0 l1 V = some res) : J g rm_X6_told (QF g (some (.int res.1)) K P res.2 0 0) 2 K P V 0 0 71 [some (.ref l0), some (.int l1)] [] := by
  rw [f_X6_told_71] at hf
  refine j_iload_n (q := 72) h dX6_told_71 rfl rfl ?_
  refine j_bipush (q := 74) (20) h dX6_told_72 kb_20 rfl ?_
  refine j_icmp_lt (q := 77) 98 h dX6_told_74 (by decide) rfl hf (fun hf => ?_) (fun hf => ?_)
  · refine j_bipush (q := 100) (-2) h dX6_told_98 kb_m2 rfl ?_
    exact j_iret h dX6_told_100 hf
  · refine j_iload_n (q := 78) h dX6_told_77 rfl rfl ?_
    refine j_bipush (q := 80) (32) h dX6_told_78 kb_32 rfl ?_
    refine j_icmp_ge (q := 83) 98 h dX6_told_80 (by decide) rfl hf (fun hf => ?_) (fun hf => ?_)
    · refine j_bipush (q := 100) (-2) h dX6_told_98 kb_m2 rfl ?_
      exact j_iret h dX6_told_100 hf
    · refine j_aload_n (q := 84) h dX6_told_83 rfl rfl ?_
      refine j_gR (q := 87) h uin_X6 rfl rfl (by decide) rfl fl_X6_21 dX6_told_84 rfl hf (fun b1 hf => ?_)
      refine j_gR (q := 90) h uin_X5 rfl rfl (by decide) rfl fl_X6_96 dX6_told_87 rfl hf (fun b2 hf => ?_)
      refine j_iload_n (q := 91) h dX6_told_90 rfl rfl ?_
      refine j_bipush (q := 93) (20) h dX6_told_91 kb_20 rfl ?_
      refine j_isub (q := 94) h dX6_told_93 rfl ?_
      refine j_cVi (q := 97) (As := [.int _]) h rfl hf (fun _ hx => ct_X4_at _ _ _ hx) ml_X6_114 vw_X4_at rf_X6_told_X4_at ⟨Nat.zero_le _, Nat.zero_le _⟩ (Nat.le_of_ble_eq_true rfl) dX6_told_94 rfl (fun _ _ hf => ?_)
      exact j_iret h dX6_told_97 hf
set_option maxRecDepth 20000 in
theorem w_X6_told_0 {g : GT} {K : KT} {P : PT} {res : Int32 × VT} (h : OK g RX6 cX6_told 2 (some .int)) {l0 : Nat} {l1 : Int32} {V : VT} (hf : f_X6_told K P l0 l1 V = some res) : J g rm_X6_told (QF g (some (.int res.1)) K P res.2 0 0) 2 K P V 0 0 0 [some (.ref l0), some (.int l1)] [] := by
  rw [f_X6_told] at hf
  refine j_iload_n (q := 1) h dX6_told_0 rfl rfl ?_
  refine j_if_ne (q := 4) 12 h dX6_told_1 (by decide) rfl hf (fun hf => ?_) (fun hf => ?_)
  · refine j_iload_n (q := 13) h dX6_told_12 rfl rfl ?_
    refine j_iconst (q := 14) (1) h dX6_told_13 ki_1 rfl ?_
    refine j_icmp_ne (q := 17) 28 h dX6_told_14 (by decide) rfl hf (fun hf => ?_) (fun hf => ?_)
    · refine j_iload_n (q := 29) h dX6_told_28 rfl rfl ?_
      refine j_iconst (q := 30) (2) h dX6_told_29 ki_2 rfl ?_
      refine j_icmp_ne (q := 33) 44 h dX6_told_30 (by decide) rfl hf (fun hf => ?_) (fun hf => ?_)
      · refine j_iload_n (q := 45) h dX6_told_44 rfl rfl ?_
        refine j_bipush (q := 47) (10) h dX6_told_45 kb_10 rfl ?_
        refine j_icmp_lt (q := 50) 71 h dX6_told_47 (by decide) rfl hf (fun hf => ?_) (fun hf => ?_)
        · exact j_sub (lsub_s (lsub_s lsub_0)) (w_X6_told_71 h hf)
        · refine j_iload_n (q := 51) h dX6_told_50 rfl rfl ?_
          refine j_bipush (q := 53) (15) h dX6_told_51 kb_15 rfl ?_
          refine j_icmp_ge (q := 56) 71 h dX6_told_53 (by decide) rfl hf (fun hf => ?_) (fun hf => ?_)
          · exact j_sub (lsub_s (lsub_s lsub_0)) (w_X6_told_71 h hf)
          · refine j_aload_n (q := 57) h dX6_told_56 rfl rfl ?_
            refine j_gR (q := 60) h uin_X6 rfl rfl (by decide) rfl fl_X6_21 dX6_told_57 rfl hf (fun b1 hf => ?_)
            refine j_gR (q := 63) h uin_X5 rfl rfl (by decide) rfl fl_X6_90 dX6_told_60 rfl hf (fun b2 hf => ?_)
            refine j_iload_n (q := 64) h dX6_told_63 rfl rfl ?_
            refine j_bipush (q := 66) (10) h dX6_told_64 kb_10 rfl ?_
            refine j_isub (q := 67) h dX6_told_66 rfl ?_
            refine j_cVi (q := 70) (As := [.int _]) h rfl hf (fun _ hx => ct_X4_at _ _ _ hx) ml_X6_114 vw_X4_at rf_X6_told_X4_at ⟨Nat.zero_le _, Nat.zero_le _⟩ (Nat.le_of_ble_eq_true rfl) dX6_told_67 rfl (fun _ _ hf => ?_)
            exact j_iret h dX6_told_70 hf
      · refine j_aload_n (q := 34) h dX6_told_33 rfl rfl ?_
        refine j_gR (q := 37) h uin_X6 rfl rfl (by decide) rfl fl_X6_21 dX6_told_34 rfl hf (fun b5 hf => ?_)
        refine j_gR (q := 40) h uin_X5 rfl rfl (by decide) rfl fl_X6_90 dX6_told_37 rfl hf (fun b6 hf => ?_)
        refine j_cVi (q := 43) (As := []) h rfl hf (fun _ hx => ct_X4_size _ _ _ hx) ml_X6_54 vw_X4_size rf_X6_told_X4_size ⟨Nat.zero_le _, Nat.zero_le _⟩ (Nat.le_of_ble_eq_true rfl) dX6_told_40 rfl (fun _ _ hf => ?_)
        exact j_iret h dX6_told_43 hf
    · refine j_aload_n (q := 18) h dX6_told_17 rfl rfl ?_
      refine j_gR (q := 21) h uin_X6 rfl rfl (by decide) rfl fl_X6_21 dX6_told_18 rfl hf (fun b9 hf => ?_)
      refine j_gR (q := 24) h uin_X5 rfl rfl (by decide) rfl fl_X6_96 dX6_told_21 rfl hf (fun b10 hf => ?_)
      refine j_cVi (q := 27) (As := []) h rfl hf (fun _ hx => ct_X4_size _ _ _ hx) ml_X6_54 vw_X4_size rf_X6_told_X4_size ⟨Nat.zero_le _, Nat.zero_le _⟩ (Nat.le_of_ble_eq_true rfl) dX6_told_24 rfl (fun _ _ hf => ?_)
      exact j_iret h dX6_told_27 hf
  · refine j_aload_n (q := 5) h dX6_told_4 rfl rfl ?_
    refine j_gR (q := 8) h uin_X6 rfl rfl (by decide) rfl fl_X6_14 dX6_told_5 rfl hf (fun b13 hf => ?_)
    refine j_cVi (q := 11) (As := []) h rfl hf (fun _ hx => ct_X4_size _ _ _ hx) ml_X6_54 vw_X4_size rf_X6_told_X4_size ⟨Nat.zero_le _, Nat.zero_le _⟩ (Nat.le_of_ble_eq_true rfl) dX6_told_8 rfl (fun _ _ hf => ?_)
    exact j_iret h dX6_told_11 hf
theorem ct_X6_told (l : Launch) (D : va_G) (T : TT) {K : KT} {P : PT} {l0 : Nat} {l1 : Int32} {V : VT} {res : Int32 × VT} (hf : f_X6_told K P l0 l1 V = some res) : CT l D T yX6_told cX6_told 2 (some .int) rm_X6_told K P V [.ref l0, .int l1] (some (.int res.1)) res.2 :=
  fun _ => CT_of pn_X6 (cat_a (cat_i cat_0)) (Nat.le_of_ble_eq_true rfl) [some (.ref l0), some (.int l1)] rfl (fun _ _ _ h => w_X6_told_0 h hf)
/-! QuotedLayersModel.in(III)Z -/
def rm_X7_in : Room := { frames := 0, cells := 0, slots := 0, locals := 0 }
def f_X7_in (K : KT) (P : PT) (l0 : Int32) (l1 : Int32) (l2 : Int32) (V : VT) : Option (Int32 × VT) :=
  if l0 < l1 then (rB ((0 : Int32)) V) else (if l2 < l0 then (rB ((0 : Int32)) V) else (rB ((1 : Int32)) V))
set_option maxRecDepth 20000 in
theorem w_X7_in_0 {g : GT} {K : KT} {P : PT} {res : Int32 × VT} (h : OK g RX7 cX7_in 3 (some .boolean)) {l0 : Int32} {l1 : Int32} {l2 : Int32} {V : VT} (hf : f_X7_in K P l0 l1 l2 V = some res) : J g rm_X7_in (QF g (some (.int res.1)) K P res.2 0 0) 3 K P V 0 0 0 [some (.int l0), some (.int l1), some (.int l2)] [] := by
  rw [f_X7_in] at hf
  refine j_iload_n (q := 1) h dX7_in_0 rfl rfl ?_
  refine j_iload_n (q := 2) h dX7_in_1 rfl rfl ?_
  refine j_icmp_lt (q := 5) 14 h dX7_in_2 (by decide) rfl hf (fun hf => ?_) (fun hf => ?_)
  · refine j_iconst (q := 15) (0) h dX7_in_14 ki_0 rfl ?_
    exact j_zret h dX7_in_15 hf
  · refine j_iload_n (q := 6) h dX7_in_5 rfl rfl ?_
    refine j_iload_n (q := 7) h dX7_in_6 rfl rfl ?_
    refine j_icmp_gt (q := 10) 14 h dX7_in_7 (by decide) rfl hf (fun hf => ?_) (fun hf => ?_)
    · refine j_iconst (q := 15) (0) h dX7_in_14 ki_0 rfl ?_
      exact j_zret h dX7_in_15 hf
    · refine j_iconst (q := 11) (1) h dX7_in_10 ki_1 rfl ?_
      refine j_goto 15 h dX7_in_11 (by decide) ?_
      exact j_zret h dX7_in_15 hf
theorem ct_X7_in (l : Launch) (D : va_G) (T : TT) {K : KT} {P : PT} {l0 : Int32} {l1 : Int32} {l2 : Int32} {V : VT} {res : Int32 × VT} (hf : f_X7_in K P l0 l1 l2 V = some res) : CT l D T yX7_in cX7_in 3 (some .boolean) rm_X7_in K P V [.int l0, .int l1, .int l2] (some (.int res.1)) res.2 :=
  fun _ => CT_of pn_X7 (cat_i (cat_i (cat_i cat_0))) (Nat.le_of_ble_eq_true rfl) [some (.int l0), some (.int l1), some (.int l2)] rfl (fun _ _ _ h => w_X7_in_0 h hf)
/-! QuotedLayersModel.isLayer(I)Z -/
def rm_X7_isLayer : Room := { frames := 1, cells := 0, slots := 0, locals := 22 }
theorem rf_X7_isLayer_X7_in : RF rm_X7_in rm_X7_isLayer 3 := ⟨⟨by decide, by decide⟩, rfl, rfl⟩
def f_X7_isLayer (K : KT) (P : PT) (l0 : Int32) (V : VT) : Option (Int32 × VT) :=
  cS (f_X7_in K P l0 ((0 : Int32)) ((4 : Int32)) V) fun x2 V1 => rB x2 V1
set_option maxRecDepth 20000 in
theorem w_X7_isLayer_0 {g : GT} {K : KT} {P : PT} {res : Int32 × VT} (h : OK g RX7 cX7_isLayer 1 (some .boolean)) {l0 : Int32} {V : VT} (hf : f_X7_isLayer K P l0 V = some res) : J g rm_X7_isLayer (QF g (some (.int res.1)) K P res.2 0 0) 1 K P V 0 0 0 [some (.int l0)] [] := by
  rw [f_X7_isLayer] at hf
  refine j_iload_n (q := 1) h dX7_isLayer_0 rfl rfl ?_
  refine j_iconst (q := 2) (0) h dX7_isLayer_1 ki_0 rfl ?_
  refine j_iconst (q := 3) (4) h dX7_isLayer_2 ki_4 rfl ?_
  refine j_cSi (q := 6) (As := [.int _, .int _, .int _]) h rfl hf (fun _ hx => ct_X7_in _ _ _ hx) ml_X7_63 sw_X7_in rf_X7_isLayer_X7_in ⟨Nat.zero_le _, Nat.zero_le _⟩ (Nat.le_of_ble_eq_true rfl) dX7_isLayer_3 rfl (fun _ _ hf => ?_)
  exact j_zret h dX7_isLayer_6 hf
theorem ct_X7_isLayer (l : Launch) (D : va_G) (T : TT) {K : KT} {P : PT} {l0 : Int32} {V : VT} {res : Int32 × VT} (hf : f_X7_isLayer K P l0 V = some res) : CT l D T yX7_isLayer cX7_isLayer 1 (some .boolean) rm_X7_isLayer K P V [.int l0] (some (.int res.1)) res.2 :=
  fun _ => CT_of pn_X7 (cat_i cat_0) (Nat.le_of_ble_eq_true rfl) [some (.int l0)] rfl (fun _ _ _ h => w_X7_isLayer_0 h hf)
/-! QuotedLayersModel.say(I)I -/
def rm_X7_say : Room := { frames := 1, cells := 0, slots := 0, locals := 22 }
theorem rf_X7_say_X7_in : RF rm_X7_in rm_X7_say 3 := ⟨⟨by decide, by decide⟩, rfl, rfl⟩
def f_X7_say (K : KT) (P : PT) (l0 : Nat) (l1 : Int32) (V : VT) : Option (Int32 × VT) :=
  cS (f_X7_in K P l1 ((33 : Int32)) ((126 : Int32)) V) fun x2 V1 => if x2 = 0 then (some ((-2 : Int32), V1)) else (gI K V1 l0 5 0 fun x3 => if x3 = ((60 : Int32)) then (some ((-4 : Int32), V1)) else (gR K P l0 5 1 fun b4 => gI K V1 l0 5 0 fun x5 => sA K V1 b4 x5 l1 fun V6 => gI K V6 l0 5 0 fun x7 => sI K V6 l0 5 0 (x7 + ((1 : Int32))) fun V8 => gI K V8 l0 5 0 fun x9 => some (x9, V8)))
set_option maxRecDepth 20000 in
theorem w_X7_say_0 {g : GT} {K : KT} {P : PT} {res : Int32 × VT} (h : OK g RX7 cX7_say 2 (some .int)) {l0 : Nat} {l1 : Int32} {V : VT} (hf : f_X7_say K P l0 l1 V = some res) : J g rm_X7_say (QF g (some (.int res.1)) K P res.2 0 0) 2 K P V 0 0 0 [some (.ref l0), some (.int l1)] [] := by
  rw [f_X7_say] at hf
  refine j_iload_n (q := 1) h dX7_say_0 rfl rfl ?_
  refine j_bipush (q := 3) (33) h dX7_say_1 kb_33 rfl ?_
  refine j_bipush (q := 5) (126) h dX7_say_3 kb_126 rfl ?_
  refine j_cSi (q := 8) (As := [.int _, .int _, .int _]) h rfl hf (fun _ hx => ct_X7_in _ _ _ hx) ml_X7_63 sw_X7_in rf_X7_say_X7_in ⟨Nat.zero_le _, Nat.zero_le _⟩ (Nat.le_of_ble_eq_true rfl) dX7_say_5 rfl (fun _ _ hf => ?_)
  refine j_if_ne (q := 11) 14 h dX7_say_8 (by decide) rfl hf (fun hf => ?_) (fun hf => ?_)
  · refine j_aload_n (q := 15) h dX7_say_14 rfl rfl ?_
    refine j_gI (q := 18) h uin_X7 rfl rfl (by decide) rfl fl_X7_67 dX7_say_15 rfl hf (fun hf => ?_)
    refine j_bipush (q := 20) (60) h dX7_say_18 kb_60 rfl ?_
    refine j_icmp_ne (q := 23) 26 h dX7_say_20 (by decide) rfl hf (fun hf => ?_) (fun hf => ?_)
    · refine j_aload_n (q := 27) h dX7_say_26 rfl rfl ?_
      refine j_gR (q := 30) h uin_X7 rfl rfl (by decide) rfl fl_X7_7 dX7_say_27 rfl hf (fun b4 hf => ?_)
      refine j_aload_n (q := 31) h dX7_say_30 rfl rfl ?_
      refine j_gI (q := 34) h uin_X7 rfl rfl (by decide) rfl fl_X7_67 dX7_say_31 rfl hf (fun hf => ?_)
      refine j_iload_n (q := 35) h dX7_say_34 rfl rfl ?_
      refine j_iast (q := 36) h dX7_say_35 rfl hf (fun hf => ?_)
      refine j_aload_n (q := 37) h dX7_say_36 rfl rfl ?_
      refine j_dup (q := 38) h dX7_say_37 rfl rfl ?_
      refine j_gI (q := 41) h uin_X7 rfl rfl (by decide) rfl fl_X7_67 dX7_say_38 rfl hf (fun hf => ?_)
      refine j_iconst (q := 42) (1) h dX7_say_41 ki_1 rfl ?_
      refine j_iadd (q := 43) h dX7_say_42 rfl ?_
      refine j_sI (q := 46) h tyX7 tyX7_ok nmX7 uin_X7 rfl rfl (by decide) rfl rfl (by decide +kernel) fl_X7_67 dX7_say_43 rfl hf (fun hf => ?_)
      refine j_aload_n (q := 47) h dX7_say_46 rfl rfl ?_
      refine j_gI (q := 50) h uin_X7 rfl rfl (by decide) rfl fl_X7_67 dX7_say_47 rfl hf (fun hf => ?_)
      exact j_iret h dX7_say_50 hf
    · refine j_bipush (q := 25) (-4) h dX7_say_23 kb_m4 rfl ?_
      exact j_iret h dX7_say_25 hf
  · refine j_bipush (q := 13) (-2) h dX7_say_11 kb_m2 rfl ?_
    exact j_iret h dX7_say_13 hf
theorem ct_X7_say (l : Launch) (D : va_G) (T : TT) {K : KT} {P : PT} {l0 : Nat} {l1 : Int32} {V : VT} {res : Int32 × VT} (hf : f_X7_say K P l0 l1 V = some res) : CT l D T yX7_say cX7_say 2 (some .int) rm_X7_say K P V [.ref l0, .int l1] (some (.int res.1)) res.2 :=
  fun _ => CT_of pn_X7 (cat_a (cat_i cat_0)) (Nat.le_of_ble_eq_true rfl) [some (.ref l0), some (.int l1)] rfl (fun _ _ _ h => w_X7_say_0 h hf)
/-! QuotedLayersModel.wipe()I -/
def rm_X7_wipe : Room := { frames := 0, cells := 0, slots := 0, locals := 0 }
def f_X7_wipe (K : KT) (P : PT) (l0 : Nat) (V : VT) : Option (Int32 × VT) :=
  gI K V l0 5 0 fun x1 => sI K V l0 5 0 ((0 : Int32)) fun V2 => some (x1, V2)
set_option maxRecDepth 20000 in
theorem w_X7_wipe_0 {g : GT} {K : KT} {P : PT} {res : Int32 × VT} (h : OK g RX7 cX7_wipe 2 (some .int)) {l0 : Nat} {V : VT} (hf : f_X7_wipe K P l0 V = some res) : J g rm_X7_wipe (QF g (some (.int res.1)) K P res.2 0 0) 2 K P V 0 0 0 [some (.ref l0), none] [] := by
  rw [f_X7_wipe] at hf
  refine j_aload_n (q := 1) h dX7_wipe_0 rfl rfl ?_
  refine j_gI (q := 4) h uin_X7 rfl rfl (by decide) rfl fl_X7_67 dX7_wipe_1 rfl hf (fun hf => ?_)
  refine j_istore_n (q := 5) [_, _] h dX7_wipe_4 rfl (by decide) rfl rfl ?_
  refine j_aload_n (q := 6) h dX7_wipe_5 rfl rfl ?_
  refine j_iconst (q := 7) (0) h dX7_wipe_6 ki_0 rfl ?_
  refine j_sI (q := 10) h tyX7 tyX7_ok nmX7 uin_X7 rfl rfl (by decide) rfl rfl (by decide +kernel) fl_X7_67 dX7_wipe_7 rfl hf (fun hf => ?_)
  refine j_iload_n (q := 11) h dX7_wipe_10 rfl rfl ?_
  exact j_iret h dX7_wipe_11 hf
theorem ct_X7_wipe (l : Launch) (D : va_G) (T : TT) {K : KT} {P : PT} {l0 : Nat} {V : VT} {res : Int32 × VT} (hf : f_X7_wipe K P l0 V = some res) : CT l D T yX7_wipe cX7_wipe 2 (some .int) rm_X7_wipe K P V [.ref l0] (some (.int res.1)) res.2 :=
  fun _ => CT_of pn_X7 (cat_a cat_0) (Nat.le_of_ble_eq_true rfl) [some (.ref l0), none] rfl (fun _ _ _ h => w_X7_wipe_0 h hf)
/-! QuotedLayersModel.isDigit(I)Z -/
def rm_X7_isDigit : Room := { frames := 1, cells := 0, slots := 0, locals := 22 }
theorem rf_X7_isDigit_X7_in : RF rm_X7_in rm_X7_isDigit 3 := ⟨⟨by decide, by decide⟩, rfl, rfl⟩
def f_X7_isDigit_22 (K : KT) (P : PT)  (V : VT) : Option (Int32 × VT) :=
  rB ((1 : Int32)) V
def f_X7_isDigit (K : KT) (P : PT) (l0 : Int32) (V : VT) : Option (Int32 × VT) :=
  cS (f_X7_in K P l0 ((48 : Int32)) ((57 : Int32)) V) fun x2 V1 => if x2 = 0 then (cS (f_X7_in K P l0 ((97 : Int32)) ((102 : Int32)) V1) fun x4 V3 => if x4 = 0 then (rB ((0 : Int32)) V3) else (f_X7_isDigit_22 K P V3)) else (f_X7_isDigit_22 K P V1)
set_option maxRecDepth 20000 in
theorem w_X7_isDigit_22 {g : GT} {K : KT} {P : PT} {res : Int32 × VT} (h : OK g RX7 cX7_isDigit 1 (some .boolean))  {V : VT} (hf : f_X7_isDigit_22 K P  V = some res) : J g rm_X7_isDigit (QF g (some (.int res.1)) K P res.2 0 0) 1 K P V 0 0 22 [none] [] := by
  rw [f_X7_isDigit_22] at hf
  refine j_iconst (q := 23) (1) h dX7_isDigit_22 ki_1 rfl ?_
  refine j_goto 27 h dX7_isDigit_23 (by decide) ?_
  exact j_zret h dX7_isDigit_27 hf
set_option maxRecDepth 20000 in
theorem w_X7_isDigit_0 {g : GT} {K : KT} {P : PT} {res : Int32 × VT} (h : OK g RX7 cX7_isDigit 1 (some .boolean)) {l0 : Int32} {V : VT} (hf : f_X7_isDigit K P l0 V = some res) : J g rm_X7_isDigit (QF g (some (.int res.1)) K P res.2 0 0) 1 K P V 0 0 0 [some (.int l0)] [] := by
  rw [f_X7_isDigit] at hf
  refine j_iload_n (q := 1) h dX7_isDigit_0 rfl rfl ?_
  refine j_bipush (q := 3) (48) h dX7_isDigit_1 kb_48 rfl ?_
  refine j_bipush (q := 5) (57) h dX7_isDigit_3 kb_57 rfl ?_
  refine j_cSi (q := 8) (As := [.int _, .int _, .int _]) h rfl hf (fun _ hx => ct_X7_in _ _ _ hx) ml_X7_63 sw_X7_in rf_X7_isDigit_X7_in ⟨Nat.zero_le _, Nat.zero_le _⟩ (Nat.le_of_ble_eq_true rfl) dX7_isDigit_5 rfl (fun _ _ hf => ?_)
  refine j_if_ne (q := 11) 22 h dX7_isDigit_8 (by decide) rfl hf (fun hf => ?_) (fun hf => ?_)
  · exact j_sub (lsub_n lsub_0) (w_X7_isDigit_22 h hf)
  · refine j_iload_n (q := 12) h dX7_isDigit_11 rfl rfl ?_
    refine j_bipush (q := 14) (97) h dX7_isDigit_12 kb_97 rfl ?_
    refine j_bipush (q := 16) (102) h dX7_isDigit_14 kb_102 rfl ?_
    refine j_cSi (q := 19) (As := [.int _, .int _, .int _]) h rfl hf (fun _ hx => ct_X7_in _ _ _ hx) ml_X7_63 sw_X7_in rf_X7_isDigit_X7_in ⟨Nat.zero_le _, Nat.zero_le _⟩ (Nat.le_of_ble_eq_true rfl) dX7_isDigit_16 rfl (fun _ _ hf => ?_)
    refine j_if_eq (q := 22) 26 h dX7_isDigit_19 (by decide) rfl hf (fun hf => ?_) (fun hf => ?_)
    · refine j_iconst (q := 27) (0) h dX7_isDigit_26 ki_0 rfl ?_
      exact j_zret h dX7_isDigit_27 hf
    · exact j_sub (lsub_n lsub_0) (w_X7_isDigit_22 h hf)
theorem ct_X7_isDigit (l : Launch) (D : va_G) (T : TT) {K : KT} {P : PT} {l0 : Int32} {V : VT} {res : Int32 × VT} (hf : f_X7_isDigit K P l0 V = some res) : CT l D T yX7_isDigit cX7_isDigit 1 (some .boolean) rm_X7_isDigit K P V [.int l0] (some (.int res.1)) res.2 :=
  fun _ => CT_of pn_X7 (cat_i cat_0) (Nat.le_of_ble_eq_true rfl) [some (.int l0)] rfl (fun _ _ _ h => w_X7_isDigit_0 h hf)
/-! QuotedLayersModel.isNew(I)Z -/
def rm_X7_isNew : Room := { frames := 2, cells := 0, slots := 0, locals := 42 }
theorem rf_X7_isNew_X7_isDigit : RF rm_X7_isDigit rm_X7_isNew 1 := ⟨⟨by decide, by decide⟩, rfl, rfl⟩
def f_X7_isNew_69 (K : KT) (P : PT) (k35 : Nat → Int32 → Int32 → Int32 → VT → Option (Int32 × VT)) (l0 : Nat) (l1 : Int32) (l3 : Int32) (s0 : Int32) (V : VT) : Option (Int32 × VT) :=
  k35 l0 l1 s0 (l3 + (1 : Int32)) V
def f_X7_isNew_68 (K : KT) (P : PT) (k35 : Nat → Int32 → Int32 → Int32 → VT → Option (Int32 × VT)) (l0 : Nat) (l1 : Int32) (l3 : Int32) (V : VT) : Option (Int32 × VT) :=
  f_X7_isNew_69 K P k35 l0 l1 l3 ((0 : Int32)) V
def f_X7_isNew_64 (K : KT) (P : PT) (k35 : Nat → Int32 → Int32 → Int32 → VT → Option (Int32 × VT)) (l0 : Nat) (l1 : Int32) (l3 : Int32) (V : VT) : Option (Int32 × VT) :=
  f_X7_isNew_69 K P k35 l0 l1 l3 ((1 : Int32)) V
def f_X7_isNew_35 (K : KT) (P : PT) : Nat → Nat → Int32 → Int32 → Int32 → VT → Option (Int32 × VT)
  | 0, _, _, _, _, _ => none
  | n + 1, l0, l1, l2, l3, V => if l3 < l1 then (if l2 = 0 then (f_X7_isNew_68 K P (f_X7_isNew_35 K P n) l0 l1 l3 V) else (if l3 = ((1 : Int32)) then (f_X7_isNew_64 K P (f_X7_isNew_35 K P n) l0 l1 l3 V) else (gR K P l0 5 1 fun b1 => aI K V 0 b1 l3 fun x2 => gR K P l0 5 1 fun b3 => aI K V 0 b3 l1 fun x4 => if x2 = x4 then (f_X7_isNew_68 K P (f_X7_isNew_35 K P n) l0 l1 l3 V) else (f_X7_isNew_64 K P (f_X7_isNew_35 K P n) l0 l1 l3 V)))) else (rB l2 V)
def f_X7_isNew_32 (K : KT) (P : PT) (l0 : Nat) (l1 : Int32) (s0 : Int32) (V : VT) : Option (Int32 × VT) :=
  f_X7_isNew_35 K P FU l0 l1 s0 ((0 : Int32)) V
def f_X7_isNew_31 (K : KT) (P : PT) (l0 : Nat) (l1 : Int32) (V : VT) : Option (Int32 × VT) :=
  f_X7_isNew_32 K P l0 l1 ((0 : Int32)) V
def f_X7_isNew_27 (K : KT) (P : PT) (l0 : Nat) (l1 : Int32) (V : VT) : Option (Int32 × VT) :=
  f_X7_isNew_32 K P l0 l1 ((1 : Int32)) V
def f_X7_isNew (K : KT) (P : PT) (l0 : Nat) (l1 : Int32) (V : VT) : Option (Int32 × VT) :=
  gR K P l0 5 1 fun b1 => aI K V 0 b1 l1 fun x2 => cS (f_X7_isDigit K P x2 V) fun x4 V3 => if x4 = 0 then (gR K P l0 5 1 fun b5 => aI K V3 0 b5 l1 fun x6 => if x6 = ((45 : Int32)) then (if l1 = 0 then (f_X7_isNew_27 K P l0 l1 V3) else (f_X7_isNew_31 K P l0 l1 V3)) else (f_X7_isNew_27 K P l0 l1 V3)) else (f_X7_isNew_31 K P l0 l1 V3)
set_option maxRecDepth 20000 in
theorem w_X7_isNew_69 {g : GT} {K : KT} {P : PT} {res : Int32 × VT} (h : OK g RX7 cX7_isNew 4 (some .boolean)) {k35 : Nat → Int32 → Int32 → Int32 → VT → Option (Int32 × VT)} (hk35 : ∀ (l0 : Nat) (l1 : Int32) (l2 : Int32) (l3 : Int32) (V : VT), k35 l0 l1 l2 l3 V = some res → J g rm_X7_isNew (QF g (some (.int res.1)) K P res.2 0 0) 4 K P V 0 0 35 [some (.ref l0), some (.int l1), some (.int l2), some (.int l3)] []) {l0 : Nat} {l1 : Int32} {l3 : Int32} {s0 : Int32} {V : VT} (hf : f_X7_isNew_69 K P k35 l0 l1 l3 s0 V = some res) : J g rm_X7_isNew (QF g (some (.int res.1)) K P res.2 0 0) 4 K P V 0 0 69 [some (.ref l0), some (.int l1), none, some (.int l3)] [.int s0] := by
  rw [f_X7_isNew_69] at hf
  refine j_istore_n (q := 70) [_, _, _, _] h dX7_isNew_69 rfl (by decide) rfl rfl ?_
  refine j_iinc (q := 73) _ [_, _, _, _] h dX7_isNew_70 rfl (by decide) rfl (kc_1 _) rfl rfl ?_
  refine j_goto 35 h dX7_isNew_73 (by decide) ?_
  exact j_sub (lsub_s (lsub_s (lsub_s (lsub_s lsub_0)))) (hk35 _ _ _ _ _ hf)
set_option maxRecDepth 20000 in
theorem w_X7_isNew_68 {g : GT} {K : KT} {P : PT} {res : Int32 × VT} (h : OK g RX7 cX7_isNew 4 (some .boolean)) {k35 : Nat → Int32 → Int32 → Int32 → VT → Option (Int32 × VT)} (hk35 : ∀ (l0 : Nat) (l1 : Int32) (l2 : Int32) (l3 : Int32) (V : VT), k35 l0 l1 l2 l3 V = some res → J g rm_X7_isNew (QF g (some (.int res.1)) K P res.2 0 0) 4 K P V 0 0 35 [some (.ref l0), some (.int l1), some (.int l2), some (.int l3)] []) {l0 : Nat} {l1 : Int32} {l3 : Int32} {V : VT} (hf : f_X7_isNew_68 K P k35 l0 l1 l3 V = some res) : J g rm_X7_isNew (QF g (some (.int res.1)) K P res.2 0 0) 4 K P V 0 0 68 [some (.ref l0), some (.int l1), none, some (.int l3)] [] := by
  rw [f_X7_isNew_68] at hf
  refine j_iconst (q := 69) (0) h dX7_isNew_68 ki_0 rfl ?_
  exact j_sub (lsub_s (lsub_s (lsub_n (lsub_s lsub_0)))) (w_X7_isNew_69 h hk35 hf)
set_option maxRecDepth 20000 in
theorem w_X7_isNew_64 {g : GT} {K : KT} {P : PT} {res : Int32 × VT} (h : OK g RX7 cX7_isNew 4 (some .boolean)) {k35 : Nat → Int32 → Int32 → Int32 → VT → Option (Int32 × VT)} (hk35 : ∀ (l0 : Nat) (l1 : Int32) (l2 : Int32) (l3 : Int32) (V : VT), k35 l0 l1 l2 l3 V = some res → J g rm_X7_isNew (QF g (some (.int res.1)) K P res.2 0 0) 4 K P V 0 0 35 [some (.ref l0), some (.int l1), some (.int l2), some (.int l3)] []) {l0 : Nat} {l1 : Int32} {l3 : Int32} {V : VT} (hf : f_X7_isNew_64 K P k35 l0 l1 l3 V = some res) : J g rm_X7_isNew (QF g (some (.int res.1)) K P res.2 0 0) 4 K P V 0 0 64 [some (.ref l0), some (.int l1), none, some (.int l3)] [] := by
  rw [f_X7_isNew_64] at hf
  refine j_iconst (q := 65) (1) h dX7_isNew_64 ki_1 rfl ?_
  refine j_goto 69 h dX7_isNew_65 (by decide) ?_
  exact j_sub (lsub_s (lsub_s (lsub_n (lsub_s lsub_0)))) (w_X7_isNew_69 h hk35 hf)
set_option maxRecDepth 20000 in
theorem w_X7_isNew_35 {g : GT} {K : KT} {P : PT} {res : Int32 × VT} (h : OK g RX7 cX7_isNew 4 (some .boolean)) : ∀ (n : Nat) (l0 : Nat) (l1 : Int32) (l2 : Int32) (l3 : Int32) (V : VT), f_X7_isNew_35 K P n l0 l1 l2 l3 V = some res → J g rm_X7_isNew (QF g (some (.int res.1)) K P res.2 0 0) 4 K P V 0 0 35 [some (.ref l0), some (.int l1), some (.int l2), some (.int l3)] [] := by
  intro n
  induction n with
  | zero => intro l0 l1 l2 l3 V hf; rw [f_X7_isNew_35] at hf; cases hf
  | succ n ih =>
    intro l0 l1 l2 l3 V hf
    rw [f_X7_isNew_35] at hf
    refine j_iload_n (q := 36) h dX7_isNew_35 rfl rfl ?_
    refine j_iload_n (q := 37) h dX7_isNew_36 rfl rfl ?_
    refine j_icmp_ge (q := 40) 76 h dX7_isNew_37 (by decide) rfl hf (fun hf => ?_) (fun hf => ?_)
    · refine j_iload_n (q := 77) h dX7_isNew_76 rfl rfl ?_
      exact j_zret h dX7_isNew_77 hf
    · refine j_iload_n (q := 41) h dX7_isNew_40 rfl rfl ?_
      refine j_if_eq (q := 44) 68 h dX7_isNew_41 (by decide) rfl hf (fun hf => ?_) (fun hf => ?_)
      · exact j_sub (lsub_s (lsub_s (lsub_n (lsub_s lsub_0)))) (w_X7_isNew_68 h ih hf)
      · refine j_iload_n (q := 45) h dX7_isNew_44 rfl rfl ?_
        refine j_iconst (q := 46) (1) h dX7_isNew_45 ki_1 rfl ?_
        refine j_icmp_eq (q := 49) 64 h dX7_isNew_46 (by decide) rfl hf (fun hf => ?_) (fun hf => ?_)
        · exact j_sub (lsub_s (lsub_s (lsub_n (lsub_s lsub_0)))) (w_X7_isNew_64 h ih hf)
        · refine j_aload_n (q := 50) h dX7_isNew_49 rfl rfl ?_
          refine j_gR (q := 53) h uin_X7 rfl rfl (by decide) rfl fl_X7_7 dX7_isNew_50 rfl hf (fun b1 hf => ?_)
          refine j_iload_n (q := 54) h dX7_isNew_53 rfl rfl ?_
          refine j_iald (q := 55) h dX7_isNew_54 rfl hf (fun hf => ?_)
          refine j_aload_n (q := 56) h dX7_isNew_55 rfl rfl ?_
          refine j_gR (q := 59) h uin_X7 rfl rfl (by decide) rfl fl_X7_7 dX7_isNew_56 rfl hf (fun b3 hf => ?_)
          refine j_iload_n (q := 60) h dX7_isNew_59 rfl rfl ?_
          refine j_iald (q := 61) h dX7_isNew_60 rfl hf (fun hf => ?_)
          refine j_icmp_eq (q := 64) 68 h dX7_isNew_61 (by decide) rfl hf (fun hf => ?_) (fun hf => ?_)
          · exact j_sub (lsub_s (lsub_s (lsub_n (lsub_s lsub_0)))) (w_X7_isNew_68 h ih hf)
          · exact j_sub (lsub_s (lsub_s (lsub_n (lsub_s lsub_0)))) (w_X7_isNew_64 h ih hf)
set_option maxRecDepth 20000 in
theorem w_X7_isNew_32 {g : GT} {K : KT} {P : PT} {res : Int32 × VT} (h : OK g RX7 cX7_isNew 4 (some .boolean)) {l0 : Nat} {l1 : Int32} {s0 : Int32} {V : VT} (hf : f_X7_isNew_32 K P l0 l1 s0 V = some res) : J g rm_X7_isNew (QF g (some (.int res.1)) K P res.2 0 0) 4 K P V 0 0 32 [some (.ref l0), some (.int l1), none, none] [.int s0] := by
  rw [f_X7_isNew_32] at hf
  refine j_istore_n (q := 33) [_, _, _, _] h dX7_isNew_32 rfl (by decide) rfl rfl ?_
  refine j_iconst (q := 34) (0) h dX7_isNew_33 ki_0 rfl ?_
  refine j_istore_n (q := 35) [_, _, _, _] h dX7_isNew_34 rfl (by decide) rfl rfl ?_
  exact j_sub (lsub_s (lsub_s (lsub_s (lsub_s lsub_0)))) (w_X7_isNew_35 h FU _ _ _ _ _ hf)
set_option maxRecDepth 20000 in
theorem w_X7_isNew_31 {g : GT} {K : KT} {P : PT} {res : Int32 × VT} (h : OK g RX7 cX7_isNew 4 (some .boolean)) {l0 : Nat} {l1 : Int32} {V : VT} (hf : f_X7_isNew_31 K P l0 l1 V = some res) : J g rm_X7_isNew (QF g (some (.int res.1)) K P res.2 0 0) 4 K P V 0 0 31 [some (.ref l0), some (.int l1), none, none] [] := by
  rw [f_X7_isNew_31] at hf
  refine j_iconst (q := 32) (0) h dX7_isNew_31 ki_0 rfl ?_
  exact j_sub (lsub_s (lsub_s (lsub_n (lsub_n lsub_0)))) (w_X7_isNew_32 h hf)
set_option maxRecDepth 20000 in
theorem w_X7_isNew_27 {g : GT} {K : KT} {P : PT} {res : Int32 × VT} (h : OK g RX7 cX7_isNew 4 (some .boolean)) {l0 : Nat} {l1 : Int32} {V : VT} (hf : f_X7_isNew_27 K P l0 l1 V = some res) : J g rm_X7_isNew (QF g (some (.int res.1)) K P res.2 0 0) 4 K P V 0 0 27 [some (.ref l0), some (.int l1), none, none] [] := by
  rw [f_X7_isNew_27] at hf
  refine j_iconst (q := 28) (1) h dX7_isNew_27 ki_1 rfl ?_
  refine j_goto 32 h dX7_isNew_28 (by decide) ?_
  exact j_sub (lsub_s (lsub_s (lsub_n (lsub_n lsub_0)))) (w_X7_isNew_32 h hf)
set_option maxRecDepth 20000 in
theorem w_X7_isNew_0 {g : GT} {K : KT} {P : PT} {res : Int32 × VT} (h : OK g RX7 cX7_isNew 4 (some .boolean)) {l0 : Nat} {l1 : Int32} {V : VT} (hf : f_X7_isNew K P l0 l1 V = some res) : J g rm_X7_isNew (QF g (some (.int res.1)) K P res.2 0 0) 4 K P V 0 0 0 [some (.ref l0), some (.int l1), none, none] [] := by
  rw [f_X7_isNew] at hf
  refine j_aload_n (q := 1) h dX7_isNew_0 rfl rfl ?_
  refine j_gR (q := 4) h uin_X7 rfl rfl (by decide) rfl fl_X7_7 dX7_isNew_1 rfl hf (fun b1 hf => ?_)
  refine j_iload_n (q := 5) h dX7_isNew_4 rfl rfl ?_
  refine j_iald (q := 6) h dX7_isNew_5 rfl hf (fun hf => ?_)
  refine j_cSi (q := 9) (As := [.int _]) h rfl hf (fun _ hx => ct_X7_isDigit _ _ _ hx) ml_X7_70 sw_X7_isDigit rf_X7_isNew_X7_isDigit ⟨Nat.zero_le _, Nat.zero_le _⟩ (Nat.le_of_ble_eq_true rfl) dX7_isNew_6 rfl (fun _ _ hf => ?_)
  refine j_if_ne (q := 12) 31 h dX7_isNew_9 (by decide) rfl hf (fun hf => ?_) (fun hf => ?_)
  · exact j_sub (lsub_s (lsub_s (lsub_n (lsub_n lsub_0)))) (w_X7_isNew_31 h hf)
  · refine j_aload_n (q := 13) h dX7_isNew_12 rfl rfl ?_
    refine j_gR (q := 16) h uin_X7 rfl rfl (by decide) rfl fl_X7_7 dX7_isNew_13 rfl hf (fun b5 hf => ?_)
    refine j_iload_n (q := 17) h dX7_isNew_16 rfl rfl ?_
    refine j_iald (q := 18) h dX7_isNew_17 rfl hf (fun hf => ?_)
    refine j_bipush (q := 20) (45) h dX7_isNew_18 kb_45 rfl ?_
    refine j_icmp_ne (q := 23) 27 h dX7_isNew_20 (by decide) rfl hf (fun hf => ?_) (fun hf => ?_)
    · exact j_sub (lsub_s (lsub_s (lsub_n (lsub_n lsub_0)))) (w_X7_isNew_27 h hf)
    · refine j_iload_n (q := 24) h dX7_isNew_23 rfl rfl ?_
      refine j_if_ne (q := 27) 31 h dX7_isNew_24 (by decide) rfl hf (fun hf => ?_) (fun hf => ?_)
      · exact j_sub (lsub_s (lsub_s (lsub_n (lsub_n lsub_0)))) (w_X7_isNew_31 h hf)
      · exact j_sub (lsub_s (lsub_s (lsub_n (lsub_n lsub_0)))) (w_X7_isNew_27 h hf)
theorem ct_X7_isNew (l : Launch) (D : va_G) (T : TT) {K : KT} {P : PT} {l0 : Nat} {l1 : Int32} {V : VT} {res : Int32 × VT} (hf : f_X7_isNew K P l0 l1 V = some res) : CT l D T yX7_isNew cX7_isNew 4 (some .boolean) rm_X7_isNew K P V [.ref l0, .int l1] (some (.int res.1)) res.2 :=
  fun _ => CT_of pn_X7 (cat_a (cat_i cat_0)) (Nat.le_of_ble_eq_true rfl) [some (.ref l0), some (.int l1), none, none] rfl (fun _ _ _ h => w_X7_isNew_0 h hf)
/-! QuotedLayersModel.faultOf()I -/
def rm_X7_faultOf : Room := { frames := 3, cells := 0, slots := 0, locals := 65 }
theorem rf_X7_faultOf_X7_in : RF rm_X7_in rm_X7_faultOf 3 := ⟨⟨by decide, by decide⟩, rfl, rfl⟩
theorem rf_X7_faultOf_X7_isNew : RF rm_X7_isNew rm_X7_faultOf 4 := ⟨⟨by decide, by decide⟩, rfl, rfl⟩
def f_X7_faultOf_207 (K : KT) (P : PT) (l0 : Nat) (s0 : Int32) (V : VT) : Option (Int32 × VT) :=
  if s0 = 0 then (gI K V l0 5 0 fun x1 => some (x1, V)) else (some ((-6 : Int32), V))
def f_X7_faultOf_206 (K : KT) (P : PT) (l0 : Nat) (V : VT) : Option (Int32 × VT) :=
  f_X7_faultOf_207 K P l0 ((0 : Int32)) V
def f_X7_faultOf_202 (K : KT) (P : PT) (l0 : Nat) (V : VT) : Option (Int32 × VT) :=
  f_X7_faultOf_207 K P l0 ((1 : Int32)) V
def f_X7_faultOf_152 (K : KT) (P : PT) (k2 : Nat → Int32 → VT → Option (Int32 × VT)) (l0 : Nat) (l1 : Int32) (l2 : Int32) (V : VT) : Option (Int32 × VT) :=
  if l2 = 0 then (some (l1, V)) else (k2 l0 (l1 + (1 : Int32)) V)
def f_X7_faultOf_151 (K : KT) (P : PT) (k2 : Nat → Int32 → VT → Option (Int32 × VT)) (l0 : Nat) (l1 : Int32) (s0 : Int32) (V : VT) : Option (Int32 × VT) :=
  f_X7_faultOf_152 K P k2 l0 l1 s0 V
def f_X7_faultOf_150 (K : KT) (P : PT) (k2 : Nat → Int32 → VT → Option (Int32 × VT)) (l0 : Nat) (l1 : Int32) (V : VT) : Option (Int32 × VT) :=
  f_X7_faultOf_151 K P k2 l0 l1 ((0 : Int32)) V
def f_X7_faultOf_146 (K : KT) (P : PT) (k2 : Nat → Int32 → VT → Option (Int32 × VT)) (l0 : Nat) (l1 : Int32) (V : VT) : Option (Int32 × VT) :=
  f_X7_faultOf_151 K P k2 l0 l1 ((1 : Int32)) V
def f_X7_faultOf_123 (K : KT) (P : PT) (k2 : Nat → Int32 → VT → Option (Int32 × VT)) (l0 : Nat) (l1 : Int32) (s0 : Int32) (V : VT) : Option (Int32 × VT) :=
  cV K l0 5 (f_X7_isNew K P l0 l1 V) fun x2 V1 => if x2 = 0 then (f_X7_faultOf_150 K P k2 l0 l1 V1) else (if l1 < ((2 : Int32)) then (f_X7_faultOf_146 K P k2 l0 l1 V1) else (if (l1 - ((2 : Int32))) < s0 then (f_X7_faultOf_146 K P k2 l0 l1 V1) else (f_X7_faultOf_150 K P k2 l0 l1 V1)))
def f_X7_faultOf_94 (K : KT) (P : PT) (k2 : Nat → Int32 → VT → Option (Int32 × VT)) (l0 : Nat) (l1 : Int32) (s0 : Int32) (V : VT) : Option (Int32 × VT) :=
  if l1 < ((2 : Int32)) then (f_X7_faultOf_123 K P k2 l0 l1 ((1 : Int32)) V) else (gR K P l0 5 1 fun b1 => aI K V 0 b1 ((1 : Int32)) fun x2 => if x2 = ((50 : Int32)) then (f_X7_faultOf_123 K P k2 l0 l1 ((0 : Int32)) V) else (f_X7_faultOf_123 K P k2 l0 l1 (((6 : Int32)) + s0) V))
def f_X7_faultOf_93 (K : KT) (P : PT) (k2 : Nat → Int32 → VT → Option (Int32 × VT)) (l0 : Nat) (l1 : Int32) (V : VT) : Option (Int32 × VT) :=
  f_X7_faultOf_94 K P k2 l0 l1 ((0 : Int32)) V
def f_X7_faultOf_89 (K : KT) (P : PT) (k2 : Nat → Int32 → VT → Option (Int32 × VT)) (l0 : Nat) (l1 : Int32) (V : VT) : Option (Int32 × VT) :=
  f_X7_faultOf_94 K P k2 l0 l1 ((1 : Int32)) V
def f_X7_faultOf_58 (K : KT) (P : PT) (k2 : Nat → Int32 → VT → Option (Int32 × VT)) (l0 : Nat) (l1 : Int32) (s0 : Int32) (V : VT) : Option (Int32 × VT) :=
  f_X7_faultOf_152 K P k2 l0 l1 s0 V
def f_X7_faultOf_57 (K : KT) (P : PT) (k2 : Nat → Int32 → VT → Option (Int32 × VT)) (l0 : Nat) (l1 : Int32) (V : VT) : Option (Int32 × VT) :=
  f_X7_faultOf_58 K P k2 l0 l1 ((0 : Int32)) V
def f_X7_faultOf_53 (K : KT) (P : PT) (k2 : Nat → Int32 → VT → Option (Int32 × VT)) (l0 : Nat) (l1 : Int32) (V : VT) : Option (Int32 × VT) :=
  f_X7_faultOf_58 K P k2 l0 l1 ((1 : Int32)) V
def f_X7_faultOf_2 (K : KT) (P : PT) : Nat → Nat → Int32 → VT → Option (Int32 × VT)
  | 0, _, _, _ => none
  | n + 1, l0, l1, V => gI K V l0 5 0 fun x1 => if l1 < x1 then (if l1 = ((1 : Int32)) then (gR K P l0 5 1 fun b12 => aI K V 0 b12 ((1 : Int32)) fun x13 => cS (f_X7_in K P x13 ((48 : Int32)) ((51 : Int32)) V) fun x15 V14 => if x15 = 0 then (f_X7_faultOf_57 K P (f_X7_faultOf_2 K P n) l0 l1 V14) else (gR K P l0 5 1 fun b16 => aI K V14 0 b16 ((1 : Int32)) fun x17 => if x17 = ((50 : Int32)) then (gR K P l0 5 1 fun b18 => aI K V14 0 b18 ((0 : Int32)) fun x19 => if x19 = ((45 : Int32)) then (f_X7_faultOf_57 K P (f_X7_faultOf_2 K P n) l0 l1 V14) else (f_X7_faultOf_53 K P (f_X7_faultOf_2 K P n) l0 l1 V14)) else (f_X7_faultOf_53 K P (f_X7_faultOf_2 K P n) l0 l1 V14))) else (if ((1 : Int32)) < l1 then (gR K P l0 5 1 fun b8 => aI K V 0 b8 ((1 : Int32)) fun x9 => if x9 = ((49 : Int32)) then (f_X7_faultOf_89 K P (f_X7_faultOf_2 K P n) l0 l1 V) else (gR K P l0 5 1 fun b10 => aI K V 0 b10 ((1 : Int32)) fun x11 => if x11 = ((51 : Int32)) then (f_X7_faultOf_89 K P (f_X7_faultOf_2 K P n) l0 l1 V) else (f_X7_faultOf_93 K P (f_X7_faultOf_2 K P n) l0 l1 V))) else (f_X7_faultOf_93 K P (f_X7_faultOf_2 K P n) l0 l1 V))) else (gI K V l0 5 0 fun x2 => if ((1 : Int32)) < x2 then (gI K V l0 5 0 fun x3 => if ((2 : Int32)) < x3 then (f_X7_faultOf_202 K P l0 V) else (gR K P l0 5 1 fun b4 => aI K V 0 b4 ((1 : Int32)) fun x5 => if x5 = ((48 : Int32)) then (f_X7_faultOf_202 K P l0 V) else (gR K P l0 5 1 fun b6 => aI K V 0 b6 ((1 : Int32)) fun x7 => if x7 = ((50 : Int32)) then (f_X7_faultOf_202 K P l0 V) else (f_X7_faultOf_206 K P l0 V)))) else (f_X7_faultOf_206 K P l0 V))
def f_X7_faultOf (K : KT) (P : PT) (l0 : Nat) (V : VT) : Option (Int32 × VT) :=
  f_X7_faultOf_2 K P FU l0 ((0 : Int32)) V
set_option maxRecDepth 20000 in
theorem w_X7_faultOf_207 {g : GT} {K : KT} {P : PT} {res : Int32 × VT} (h : OK g RX7 cX7_faultOf 5 (some .int)) {l0 : Nat} {s0 : Int32} {V : VT} (hf : f_X7_faultOf_207 K P l0 s0 V = some res) : J g rm_X7_faultOf (QF g (some (.int res.1)) K P res.2 0 0) 5 K P V 0 0 207 [some (.ref l0), none, none, none, none] [.int s0] := by
  rw [f_X7_faultOf_207] at hf
  refine j_istore_n (q := 208) [_, _, _, _, _] h dX7_faultOf_207 rfl (by decide) rfl rfl ?_
  refine j_iload_n (q := 209) h dX7_faultOf_208 rfl rfl ?_
  refine j_if_eq (q := 212) 217 h dX7_faultOf_209 (by decide) rfl hf (fun hf => ?_) (fun hf => ?_)
  · refine j_aload_n (q := 218) h dX7_faultOf_217 rfl rfl ?_
    refine j_gI (q := 221) h uin_X7 rfl rfl (by decide) rfl fl_X7_67 dX7_faultOf_218 rfl hf (fun hf => ?_)
    exact j_iret h dX7_faultOf_221 hf
  · refine j_bipush (q := 214) (-6) h dX7_faultOf_212 kb_m6 rfl ?_
    refine j_goto 221 h dX7_faultOf_214 (by decide) ?_
    exact j_iret h dX7_faultOf_221 hf
set_option maxRecDepth 20000 in
theorem w_X7_faultOf_206 {g : GT} {K : KT} {P : PT} {res : Int32 × VT} (h : OK g RX7 cX7_faultOf 5 (some .int)) {l0 : Nat} {V : VT} (hf : f_X7_faultOf_206 K P l0 V = some res) : J g rm_X7_faultOf (QF g (some (.int res.1)) K P res.2 0 0) 5 K P V 0 0 206 [some (.ref l0), none, none, none, none] [] := by
  rw [f_X7_faultOf_206] at hf
  refine j_iconst (q := 207) (0) h dX7_faultOf_206 ki_0 rfl ?_
  exact j_sub (lsub_s (lsub_n (lsub_n (lsub_n (lsub_n lsub_0))))) (w_X7_faultOf_207 h hf)
set_option maxRecDepth 20000 in
theorem w_X7_faultOf_202 {g : GT} {K : KT} {P : PT} {res : Int32 × VT} (h : OK g RX7 cX7_faultOf 5 (some .int)) {l0 : Nat} {V : VT} (hf : f_X7_faultOf_202 K P l0 V = some res) : J g rm_X7_faultOf (QF g (some (.int res.1)) K P res.2 0 0) 5 K P V 0 0 202 [some (.ref l0), none, none, none, none] [] := by
  rw [f_X7_faultOf_202] at hf
  refine j_iconst (q := 203) (1) h dX7_faultOf_202 ki_1 rfl ?_
  refine j_goto 207 h dX7_faultOf_203 (by decide) ?_
  exact j_sub (lsub_s (lsub_n (lsub_n (lsub_n (lsub_n lsub_0))))) (w_X7_faultOf_207 h hf)
set_option maxRecDepth 20000 in
theorem w_X7_faultOf_152 {g : GT} {K : KT} {P : PT} {res : Int32 × VT} (h : OK g RX7 cX7_faultOf 5 (some .int)) {k2 : Nat → Int32 → VT → Option (Int32 × VT)} (hk2 : ∀ (l0 : Nat) (l1 : Int32) (V : VT), k2 l0 l1 V = some res → J g rm_X7_faultOf (QF g (some (.int res.1)) K P res.2 0 0) 5 K P V 0 0 2 [some (.ref l0), some (.int l1), none, none, none] []) {l0 : Nat} {l1 : Int32} {l2 : Int32} {V : VT} (hf : f_X7_faultOf_152 K P k2 l0 l1 l2 V = some res) : J g rm_X7_faultOf (QF g (some (.int res.1)) K P res.2 0 0) 5 K P V 0 0 152 [some (.ref l0), some (.int l1), some (.int l2), none, none] [] := by
  rw [f_X7_faultOf_152] at hf
  refine j_iload_n (q := 153) h dX7_faultOf_152 rfl rfl ?_
  refine j_if_ne (q := 156) 158 h dX7_faultOf_153 (by decide) rfl hf (fun hf => ?_) (fun hf => ?_)
  · refine j_iinc (q := 161) _ [_, _, _, _, _] h dX7_faultOf_158 rfl (by decide) rfl (kc_1 _) rfl rfl ?_
    refine j_goto 2 h dX7_faultOf_161 (by decide) ?_
    exact j_sub (lsub_s (lsub_s (lsub_n (lsub_n (lsub_n lsub_0))))) (hk2 _ _ _ hf)
  · refine j_iload_n (q := 157) h dX7_faultOf_156 rfl rfl ?_
    exact j_iret h dX7_faultOf_157 hf
set_option maxRecDepth 20000 in
theorem w_X7_faultOf_151 {g : GT} {K : KT} {P : PT} {res : Int32 × VT} (h : OK g RX7 cX7_faultOf 5 (some .int)) {k2 : Nat → Int32 → VT → Option (Int32 × VT)} (hk2 : ∀ (l0 : Nat) (l1 : Int32) (V : VT), k2 l0 l1 V = some res → J g rm_X7_faultOf (QF g (some (.int res.1)) K P res.2 0 0) 5 K P V 0 0 2 [some (.ref l0), some (.int l1), none, none, none] []) {l0 : Nat} {l1 : Int32} {s0 : Int32} {V : VT} (hf : f_X7_faultOf_151 K P k2 l0 l1 s0 V = some res) : J g rm_X7_faultOf (QF g (some (.int res.1)) K P res.2 0 0) 5 K P V 0 0 151 [some (.ref l0), some (.int l1), none, none, none] [.int s0] := by
  rw [f_X7_faultOf_151] at hf
  refine j_istore_n (q := 152) [_, _, _, _, _] h dX7_faultOf_151 rfl (by decide) rfl rfl ?_
  exact j_sub (lsub_s (lsub_s (lsub_s (lsub_n (lsub_n lsub_0))))) (w_X7_faultOf_152 h hk2 hf)
set_option maxRecDepth 20000 in
theorem w_X7_faultOf_150 {g : GT} {K : KT} {P : PT} {res : Int32 × VT} (h : OK g RX7 cX7_faultOf 5 (some .int)) {k2 : Nat → Int32 → VT → Option (Int32 × VT)} (hk2 : ∀ (l0 : Nat) (l1 : Int32) (V : VT), k2 l0 l1 V = some res → J g rm_X7_faultOf (QF g (some (.int res.1)) K P res.2 0 0) 5 K P V 0 0 2 [some (.ref l0), some (.int l1), none, none, none] []) {l0 : Nat} {l1 : Int32} {V : VT} (hf : f_X7_faultOf_150 K P k2 l0 l1 V = some res) : J g rm_X7_faultOf (QF g (some (.int res.1)) K P res.2 0 0) 5 K P V 0 0 150 [some (.ref l0), some (.int l1), none, none, none] [] := by
  rw [f_X7_faultOf_150] at hf
  refine j_iconst (q := 151) (0) h dX7_faultOf_150 ki_0 rfl ?_
  exact j_sub (lsub_s (lsub_s (lsub_n (lsub_n (lsub_n lsub_0))))) (w_X7_faultOf_151 h hk2 hf)
set_option maxRecDepth 20000 in
theorem w_X7_faultOf_146 {g : GT} {K : KT} {P : PT} {res : Int32 × VT} (h : OK g RX7 cX7_faultOf 5 (some .int)) {k2 : Nat → Int32 → VT → Option (Int32 × VT)} (hk2 : ∀ (l0 : Nat) (l1 : Int32) (V : VT), k2 l0 l1 V = some res → J g rm_X7_faultOf (QF g (some (.int res.1)) K P res.2 0 0) 5 K P V 0 0 2 [some (.ref l0), some (.int l1), none, none, none] []) {l0 : Nat} {l1 : Int32} {V : VT} (hf : f_X7_faultOf_146 K P k2 l0 l1 V = some res) : J g rm_X7_faultOf (QF g (some (.int res.1)) K P res.2 0 0) 5 K P V 0 0 146 [some (.ref l0), some (.int l1), none, none, none] [] := by
  rw [f_X7_faultOf_146] at hf
  refine j_iconst (q := 147) (1) h dX7_faultOf_146 ki_1 rfl ?_
  refine j_goto 151 h dX7_faultOf_147 (by decide) ?_
  exact j_sub (lsub_s (lsub_s (lsub_n (lsub_n (lsub_n lsub_0))))) (w_X7_faultOf_151 h hk2 hf)
set_option maxRecDepth 20000 in
theorem w_X7_faultOf_123 {g : GT} {K : KT} {P : PT} {res : Int32 × VT} (h : OK g RX7 cX7_faultOf 5 (some .int)) {k2 : Nat → Int32 → VT → Option (Int32 × VT)} (hk2 : ∀ (l0 : Nat) (l1 : Int32) (V : VT), k2 l0 l1 V = some res → J g rm_X7_faultOf (QF g (some (.int res.1)) K P res.2 0 0) 5 K P V 0 0 2 [some (.ref l0), some (.int l1), none, none, none] []) {l0 : Nat} {l1 : Int32} {s0 : Int32} {V : VT} (hf : f_X7_faultOf_123 K P k2 l0 l1 s0 V = some res) : J g rm_X7_faultOf (QF g (some (.int res.1)) K P res.2 0 0) 5 K P V 0 0 123 [some (.ref l0), some (.int l1), none, none, none] [.int s0] := by
  rw [f_X7_faultOf_123] at hf
  refine j_istore (q := 125) [_, _, _, _, _] h dX7_faultOf_123 rfl (by decide) rfl rfl ?_
  refine j_aload_n (q := 126) h dX7_faultOf_125 rfl rfl ?_
  refine j_iload_n (q := 127) h dX7_faultOf_126 rfl rfl ?_
  refine j_cVi (q := 130) (As := [.int _]) h rfl hf (fun _ hx => ct_X7_isNew _ _ _ hx) ml_X7_74 vw_X7_isNew rf_X7_faultOf_X7_isNew ⟨Nat.zero_le _, Nat.zero_le _⟩ (Nat.le_of_ble_eq_true rfl) dX7_faultOf_127 rfl (fun _ _ hf => ?_)
  refine j_if_eq (q := 133) 150 h dX7_faultOf_130 (by decide) rfl hf (fun hf => ?_) (fun hf => ?_)
  · exact j_sub (lsub_s (lsub_s (lsub_n (lsub_n (lsub_n lsub_0))))) (w_X7_faultOf_150 h hk2 hf)
  · refine j_iload_n (q := 134) h dX7_faultOf_133 rfl rfl ?_
    refine j_iconst (q := 135) (2) h dX7_faultOf_134 ki_2 rfl ?_
    refine j_icmp_lt (q := 138) 146 h dX7_faultOf_135 (by decide) rfl hf (fun hf => ?_) (fun hf => ?_)
    · exact j_sub (lsub_s (lsub_s (lsub_n (lsub_n (lsub_n lsub_0))))) (w_X7_faultOf_146 h hk2 hf)
    · refine j_iload_n (q := 139) h dX7_faultOf_138 rfl rfl ?_
      refine j_iconst (q := 140) (2) h dX7_faultOf_139 ki_2 rfl ?_
      refine j_isub (q := 141) h dX7_faultOf_140 rfl ?_
      refine j_iload (q := 143) h dX7_faultOf_141 rfl rfl ?_
      refine j_icmp_ge (q := 146) 150 h dX7_faultOf_143 (by decide) rfl hf (fun hf => ?_) (fun hf => ?_)
      · exact j_sub (lsub_s (lsub_s (lsub_n (lsub_n (lsub_n lsub_0))))) (w_X7_faultOf_150 h hk2 hf)
      · exact j_sub (lsub_s (lsub_s (lsub_n (lsub_n (lsub_n lsub_0))))) (w_X7_faultOf_146 h hk2 hf)
set_option maxRecDepth 20000 in
theorem w_X7_faultOf_94 {g : GT} {K : KT} {P : PT} {res : Int32 × VT} (h : OK g RX7 cX7_faultOf 5 (some .int)) {k2 : Nat → Int32 → VT → Option (Int32 × VT)} (hk2 : ∀ (l0 : Nat) (l1 : Int32) (V : VT), k2 l0 l1 V = some res → J g rm_X7_faultOf (QF g (some (.int res.1)) K P res.2 0 0) 5 K P V 0 0 2 [some (.ref l0), some (.int l1), none, none, none] []) {l0 : Nat} {l1 : Int32} {s0 : Int32} {V : VT} (hf : f_X7_faultOf_94 K P k2 l0 l1 s0 V = some res) : J g rm_X7_faultOf (QF g (some (.int res.1)) K P res.2 0 0) 5 K P V 0 0 94 [some (.ref l0), some (.int l1), none, none, none] [.int s0] := by
  rw [f_X7_faultOf_94] at hf
  refine j_istore_n (q := 95) [_, _, _, _, _] h dX7_faultOf_94 rfl (by decide) rfl rfl ?_
  refine j_iload_n (q := 96) h dX7_faultOf_95 rfl rfl ?_
  refine j_iconst (q := 97) (2) h dX7_faultOf_96 ki_2 rfl ?_
  refine j_icmp_ge (q := 100) 104 h dX7_faultOf_97 (by decide) rfl hf (fun hf => ?_) (fun hf => ?_)
  · refine j_aload_n (q := 105) h dX7_faultOf_104 rfl rfl ?_
    refine j_gR (q := 108) h uin_X7 rfl rfl (by decide) rfl fl_X7_7 dX7_faultOf_105 rfl hf (fun b1 hf => ?_)
    refine j_iconst (q := 109) (1) h dX7_faultOf_108 ki_1 rfl ?_
    refine j_iald (q := 110) h dX7_faultOf_109 rfl hf (fun hf => ?_)
    refine j_bipush (q := 112) (50) h dX7_faultOf_110 kb_50 rfl ?_
    refine j_icmp_ne (q := 115) 119 h dX7_faultOf_112 (by decide) rfl hf (fun hf => ?_) (fun hf => ?_)
    · refine j_bipush (q := 121) (6) h dX7_faultOf_119 kb_6 rfl ?_
      refine j_iload_n (q := 122) h dX7_faultOf_121 rfl rfl ?_
      refine j_iadd (q := 123) h dX7_faultOf_122 rfl ?_
      exact j_sub (lsub_s (lsub_s (lsub_n (lsub_n (lsub_n lsub_0))))) (w_X7_faultOf_123 h hk2 hf)
    · refine j_iconst (q := 116) (0) h dX7_faultOf_115 ki_0 rfl ?_
      refine j_goto 123 h dX7_faultOf_116 (by decide) ?_
      exact j_sub (lsub_s (lsub_s (lsub_n (lsub_n (lsub_n lsub_0))))) (w_X7_faultOf_123 h hk2 hf)
  · refine j_iconst (q := 101) (1) h dX7_faultOf_100 ki_1 rfl ?_
    refine j_goto 123 h dX7_faultOf_101 (by decide) ?_
    exact j_sub (lsub_s (lsub_s (lsub_n (lsub_n (lsub_n lsub_0))))) (w_X7_faultOf_123 h hk2 hf)
set_option maxRecDepth 20000 in
theorem w_X7_faultOf_93 {g : GT} {K : KT} {P : PT} {res : Int32 × VT} (h : OK g RX7 cX7_faultOf 5 (some .int)) {k2 : Nat → Int32 → VT → Option (Int32 × VT)} (hk2 : ∀ (l0 : Nat) (l1 : Int32) (V : VT), k2 l0 l1 V = some res → J g rm_X7_faultOf (QF g (some (.int res.1)) K P res.2 0 0) 5 K P V 0 0 2 [some (.ref l0), some (.int l1), none, none, none] []) {l0 : Nat} {l1 : Int32} {V : VT} (hf : f_X7_faultOf_93 K P k2 l0 l1 V = some res) : J g rm_X7_faultOf (QF g (some (.int res.1)) K P res.2 0 0) 5 K P V 0 0 93 [some (.ref l0), some (.int l1), none, none, none] [] := by
  rw [f_X7_faultOf_93] at hf
  refine j_iconst (q := 94) (0) h dX7_faultOf_93 ki_0 rfl ?_
  exact j_sub (lsub_s (lsub_s (lsub_n (lsub_n (lsub_n lsub_0))))) (w_X7_faultOf_94 h hk2 hf)
set_option maxRecDepth 20000 in
theorem w_X7_faultOf_89 {g : GT} {K : KT} {P : PT} {res : Int32 × VT} (h : OK g RX7 cX7_faultOf 5 (some .int)) {k2 : Nat → Int32 → VT → Option (Int32 × VT)} (hk2 : ∀ (l0 : Nat) (l1 : Int32) (V : VT), k2 l0 l1 V = some res → J g rm_X7_faultOf (QF g (some (.int res.1)) K P res.2 0 0) 5 K P V 0 0 2 [some (.ref l0), some (.int l1), none, none, none] []) {l0 : Nat} {l1 : Int32} {V : VT} (hf : f_X7_faultOf_89 K P k2 l0 l1 V = some res) : J g rm_X7_faultOf (QF g (some (.int res.1)) K P res.2 0 0) 5 K P V 0 0 89 [some (.ref l0), some (.int l1), none, none, none] [] := by
  rw [f_X7_faultOf_89] at hf
  refine j_iconst (q := 90) (1) h dX7_faultOf_89 ki_1 rfl ?_
  refine j_goto 94 h dX7_faultOf_90 (by decide) ?_
  exact j_sub (lsub_s (lsub_s (lsub_n (lsub_n (lsub_n lsub_0))))) (w_X7_faultOf_94 h hk2 hf)
set_option maxRecDepth 20000 in
theorem w_X7_faultOf_58 {g : GT} {K : KT} {P : PT} {res : Int32 × VT} (h : OK g RX7 cX7_faultOf 5 (some .int)) {k2 : Nat → Int32 → VT → Option (Int32 × VT)} (hk2 : ∀ (l0 : Nat) (l1 : Int32) (V : VT), k2 l0 l1 V = some res → J g rm_X7_faultOf (QF g (some (.int res.1)) K P res.2 0 0) 5 K P V 0 0 2 [some (.ref l0), some (.int l1), none, none, none] []) {l0 : Nat} {l1 : Int32} {s0 : Int32} {V : VT} (hf : f_X7_faultOf_58 K P k2 l0 l1 s0 V = some res) : J g rm_X7_faultOf (QF g (some (.int res.1)) K P res.2 0 0) 5 K P V 0 0 58 [some (.ref l0), some (.int l1), none, none, none] [.int s0] := by
  rw [f_X7_faultOf_58] at hf
  refine j_istore_n (q := 59) [_, _, _, _, _] h dX7_faultOf_58 rfl (by decide) rfl rfl ?_
  refine j_goto 152 h dX7_faultOf_59 (by decide) ?_
  exact j_sub (lsub_s (lsub_s (lsub_s (lsub_n (lsub_n lsub_0))))) (w_X7_faultOf_152 h hk2 hf)
set_option maxRecDepth 20000 in
theorem w_X7_faultOf_57 {g : GT} {K : KT} {P : PT} {res : Int32 × VT} (h : OK g RX7 cX7_faultOf 5 (some .int)) {k2 : Nat → Int32 → VT → Option (Int32 × VT)} (hk2 : ∀ (l0 : Nat) (l1 : Int32) (V : VT), k2 l0 l1 V = some res → J g rm_X7_faultOf (QF g (some (.int res.1)) K P res.2 0 0) 5 K P V 0 0 2 [some (.ref l0), some (.int l1), none, none, none] []) {l0 : Nat} {l1 : Int32} {V : VT} (hf : f_X7_faultOf_57 K P k2 l0 l1 V = some res) : J g rm_X7_faultOf (QF g (some (.int res.1)) K P res.2 0 0) 5 K P V 0 0 57 [some (.ref l0), some (.int l1), none, none, none] [] := by
  rw [f_X7_faultOf_57] at hf
  refine j_iconst (q := 58) (0) h dX7_faultOf_57 ki_0 rfl ?_
  exact j_sub (lsub_s (lsub_s (lsub_n (lsub_n (lsub_n lsub_0))))) (w_X7_faultOf_58 h hk2 hf)
set_option maxRecDepth 20000 in
theorem w_X7_faultOf_53 {g : GT} {K : KT} {P : PT} {res : Int32 × VT} (h : OK g RX7 cX7_faultOf 5 (some .int)) {k2 : Nat → Int32 → VT → Option (Int32 × VT)} (hk2 : ∀ (l0 : Nat) (l1 : Int32) (V : VT), k2 l0 l1 V = some res → J g rm_X7_faultOf (QF g (some (.int res.1)) K P res.2 0 0) 5 K P V 0 0 2 [some (.ref l0), some (.int l1), none, none, none] []) {l0 : Nat} {l1 : Int32} {V : VT} (hf : f_X7_faultOf_53 K P k2 l0 l1 V = some res) : J g rm_X7_faultOf (QF g (some (.int res.1)) K P res.2 0 0) 5 K P V 0 0 53 [some (.ref l0), some (.int l1), none, none, none] [] := by
  rw [f_X7_faultOf_53] at hf
  refine j_iconst (q := 54) (1) h dX7_faultOf_53 ki_1 rfl ?_
  refine j_goto 58 h dX7_faultOf_54 (by decide) ?_
  exact j_sub (lsub_s (lsub_s (lsub_n (lsub_n (lsub_n lsub_0))))) (w_X7_faultOf_58 h hk2 hf)
set_option maxRecDepth 20000 in
theorem w_X7_faultOf_2 {g : GT} {K : KT} {P : PT} {res : Int32 × VT} (h : OK g RX7 cX7_faultOf 5 (some .int)) : ∀ (n : Nat) (l0 : Nat) (l1 : Int32) (V : VT), f_X7_faultOf_2 K P n l0 l1 V = some res → J g rm_X7_faultOf (QF g (some (.int res.1)) K P res.2 0 0) 5 K P V 0 0 2 [some (.ref l0), some (.int l1), none, none, none] [] := by
  intro n
  induction n with
  | zero => intro l0 l1 V hf; rw [f_X7_faultOf_2] at hf; cases hf
  | succ n ih =>
    intro l0 l1 V hf
    rw [f_X7_faultOf_2] at hf
    refine j_iload_n (q := 3) h dX7_faultOf_2 rfl rfl ?_
    refine j_aload_n (q := 4) h dX7_faultOf_3 rfl rfl ?_
    refine j_gI (q := 7) h uin_X7 rfl rfl (by decide) rfl fl_X7_67 dX7_faultOf_4 rfl hf (fun hf => ?_)
    refine j_icmp_ge (q := 10) 164 h dX7_faultOf_7 (by decide) rfl hf (fun hf => ?_) (fun hf => ?_)
    · refine j_aload_n (q := 165) h dX7_faultOf_164 rfl rfl ?_
      refine j_gI (q := 168) h uin_X7 rfl rfl (by decide) rfl fl_X7_67 dX7_faultOf_165 rfl hf (fun hf => ?_)
      refine j_iconst (q := 169) (1) h dX7_faultOf_168 ki_1 rfl ?_
      refine j_icmp_le (q := 172) 206 h dX7_faultOf_169 (by decide) rfl hf (fun hf => ?_) (fun hf => ?_)
      · exact j_sub (lsub_s (lsub_n (lsub_n (lsub_n (lsub_n lsub_0))))) (w_X7_faultOf_206 h hf)
      · refine j_aload_n (q := 173) h dX7_faultOf_172 rfl rfl ?_
        refine j_gI (q := 176) h uin_X7 rfl rfl (by decide) rfl fl_X7_67 dX7_faultOf_173 rfl hf (fun hf => ?_)
        refine j_iconst (q := 177) (2) h dX7_faultOf_176 ki_2 rfl ?_
        refine j_icmp_gt (q := 180) 202 h dX7_faultOf_177 (by decide) rfl hf (fun hf => ?_) (fun hf => ?_)
        · exact j_sub (lsub_s (lsub_n (lsub_n (lsub_n (lsub_n lsub_0))))) (w_X7_faultOf_202 h hf)
        · refine j_aload_n (q := 181) h dX7_faultOf_180 rfl rfl ?_
          refine j_gR (q := 184) h uin_X7 rfl rfl (by decide) rfl fl_X7_7 dX7_faultOf_181 rfl hf (fun b4 hf => ?_)
          refine j_iconst (q := 185) (1) h dX7_faultOf_184 ki_1 rfl ?_
          refine j_iald (q := 186) h dX7_faultOf_185 rfl hf (fun hf => ?_)
          refine j_bipush (q := 188) (48) h dX7_faultOf_186 kb_48 rfl ?_
          refine j_icmp_eq (q := 191) 202 h dX7_faultOf_188 (by decide) rfl hf (fun hf => ?_) (fun hf => ?_)
          · exact j_sub (lsub_s (lsub_n (lsub_n (lsub_n (lsub_n lsub_0))))) (w_X7_faultOf_202 h hf)
          · refine j_aload_n (q := 192) h dX7_faultOf_191 rfl rfl ?_
            refine j_gR (q := 195) h uin_X7 rfl rfl (by decide) rfl fl_X7_7 dX7_faultOf_192 rfl hf (fun b6 hf => ?_)
            refine j_iconst (q := 196) (1) h dX7_faultOf_195 ki_1 rfl ?_
            refine j_iald (q := 197) h dX7_faultOf_196 rfl hf (fun hf => ?_)
            refine j_bipush (q := 199) (50) h dX7_faultOf_197 kb_50 rfl ?_
            refine j_icmp_ne (q := 202) 206 h dX7_faultOf_199 (by decide) rfl hf (fun hf => ?_) (fun hf => ?_)
            · exact j_sub (lsub_s (lsub_n (lsub_n (lsub_n (lsub_n lsub_0))))) (w_X7_faultOf_206 h hf)
            · exact j_sub (lsub_s (lsub_n (lsub_n (lsub_n (lsub_n lsub_0))))) (w_X7_faultOf_202 h hf)
    · refine j_iload_n (q := 11) h dX7_faultOf_10 rfl rfl ?_
      refine j_iconst (q := 12) (1) h dX7_faultOf_11 ki_1 rfl ?_
      refine j_icmp_ne (q := 15) 62 h dX7_faultOf_12 (by decide) rfl hf (fun hf => ?_) (fun hf => ?_)
      · refine j_iload_n (q := 63) h dX7_faultOf_62 rfl rfl ?_
        refine j_iconst (q := 64) (1) h dX7_faultOf_63 ki_1 rfl ?_
        refine j_icmp_le (q := 67) 93 h dX7_faultOf_64 (by decide) rfl hf (fun hf => ?_) (fun hf => ?_)
        · exact j_sub (lsub_s (lsub_s (lsub_n (lsub_n (lsub_n lsub_0))))) (w_X7_faultOf_93 h ih hf)
        · refine j_aload_n (q := 68) h dX7_faultOf_67 rfl rfl ?_
          refine j_gR (q := 71) h uin_X7 rfl rfl (by decide) rfl fl_X7_7 dX7_faultOf_68 rfl hf (fun b8 hf => ?_)
          refine j_iconst (q := 72) (1) h dX7_faultOf_71 ki_1 rfl ?_
          refine j_iald (q := 73) h dX7_faultOf_72 rfl hf (fun hf => ?_)
          refine j_bipush (q := 75) (49) h dX7_faultOf_73 kb_49 rfl ?_
          refine j_icmp_eq (q := 78) 89 h dX7_faultOf_75 (by decide) rfl hf (fun hf => ?_) (fun hf => ?_)
          · exact j_sub (lsub_s (lsub_s (lsub_n (lsub_n (lsub_n lsub_0))))) (w_X7_faultOf_89 h ih hf)
          · refine j_aload_n (q := 79) h dX7_faultOf_78 rfl rfl ?_
            refine j_gR (q := 82) h uin_X7 rfl rfl (by decide) rfl fl_X7_7 dX7_faultOf_79 rfl hf (fun b10 hf => ?_)
            refine j_iconst (q := 83) (1) h dX7_faultOf_82 ki_1 rfl ?_
            refine j_iald (q := 84) h dX7_faultOf_83 rfl hf (fun hf => ?_)
            refine j_bipush (q := 86) (51) h dX7_faultOf_84 kb_51 rfl ?_
            refine j_icmp_ne (q := 89) 93 h dX7_faultOf_86 (by decide) rfl hf (fun hf => ?_) (fun hf => ?_)
            · exact j_sub (lsub_s (lsub_s (lsub_n (lsub_n (lsub_n lsub_0))))) (w_X7_faultOf_93 h ih hf)
            · exact j_sub (lsub_s (lsub_s (lsub_n (lsub_n (lsub_n lsub_0))))) (w_X7_faultOf_89 h ih hf)
      · refine j_aload_n (q := 16) h dX7_faultOf_15 rfl rfl ?_
        refine j_gR (q := 19) h uin_X7 rfl rfl (by decide) rfl fl_X7_7 dX7_faultOf_16 rfl hf (fun b12 hf => ?_)
        refine j_iconst (q := 20) (1) h dX7_faultOf_19 ki_1 rfl ?_
        refine j_iald (q := 21) h dX7_faultOf_20 rfl hf (fun hf => ?_)
        refine j_bipush (q := 23) (48) h dX7_faultOf_21 kb_48 rfl ?_
        refine j_bipush (q := 25) (51) h dX7_faultOf_23 kb_51 rfl ?_
        refine j_cSi (q := 28) (As := [.int _, .int _, .int _]) h rfl hf (fun _ hx => ct_X7_in _ _ _ hx) ml_X7_63 sw_X7_in rf_X7_faultOf_X7_in ⟨Nat.zero_le _, Nat.zero_le _⟩ (Nat.le_of_ble_eq_true rfl) dX7_faultOf_25 rfl (fun _ _ hf => ?_)
        refine j_if_eq (q := 31) 57 h dX7_faultOf_28 (by decide) rfl hf (fun hf => ?_) (fun hf => ?_)
        · exact j_sub (lsub_s (lsub_s (lsub_n (lsub_n (lsub_n lsub_0))))) (w_X7_faultOf_57 h ih hf)
        · refine j_aload_n (q := 32) h dX7_faultOf_31 rfl rfl ?_
          refine j_gR (q := 35) h uin_X7 rfl rfl (by decide) rfl fl_X7_7 dX7_faultOf_32 rfl hf (fun b16 hf => ?_)
          refine j_iconst (q := 36) (1) h dX7_faultOf_35 ki_1 rfl ?_
          refine j_iald (q := 37) h dX7_faultOf_36 rfl hf (fun hf => ?_)
          refine j_bipush (q := 39) (50) h dX7_faultOf_37 kb_50 rfl ?_
          refine j_icmp_ne (q := 42) 53 h dX7_faultOf_39 (by decide) rfl hf (fun hf => ?_) (fun hf => ?_)
          · exact j_sub (lsub_s (lsub_s (lsub_n (lsub_n (lsub_n lsub_0))))) (w_X7_faultOf_53 h ih hf)
          · refine j_aload_n (q := 43) h dX7_faultOf_42 rfl rfl ?_
            refine j_gR (q := 46) h uin_X7 rfl rfl (by decide) rfl fl_X7_7 dX7_faultOf_43 rfl hf (fun b18 hf => ?_)
            refine j_iconst (q := 47) (0) h dX7_faultOf_46 ki_0 rfl ?_
            refine j_iald (q := 48) h dX7_faultOf_47 rfl hf (fun hf => ?_)
            refine j_bipush (q := 50) (45) h dX7_faultOf_48 kb_45 rfl ?_
            refine j_icmp_eq (q := 53) 57 h dX7_faultOf_50 (by decide) rfl hf (fun hf => ?_) (fun hf => ?_)
            · exact j_sub (lsub_s (lsub_s (lsub_n (lsub_n (lsub_n lsub_0))))) (w_X7_faultOf_57 h ih hf)
            · exact j_sub (lsub_s (lsub_s (lsub_n (lsub_n (lsub_n lsub_0))))) (w_X7_faultOf_53 h ih hf)
set_option maxRecDepth 20000 in
theorem w_X7_faultOf_0 {g : GT} {K : KT} {P : PT} {res : Int32 × VT} (h : OK g RX7 cX7_faultOf 5 (some .int)) {l0 : Nat} {V : VT} (hf : f_X7_faultOf K P l0 V = some res) : J g rm_X7_faultOf (QF g (some (.int res.1)) K P res.2 0 0) 5 K P V 0 0 0 [some (.ref l0), none, none, none, none] [] := by
  rw [f_X7_faultOf] at hf
  refine j_iconst (q := 1) (0) h dX7_faultOf_0 ki_0 rfl ?_
  refine j_istore_n (q := 2) [_, _, _, _, _] h dX7_faultOf_1 rfl (by decide) rfl rfl ?_
  exact j_sub (lsub_s (lsub_s (lsub_n (lsub_n (lsub_n lsub_0))))) (w_X7_faultOf_2 h FU _ _ _ hf)
theorem ct_X7_faultOf (l : Launch) (D : va_G) (T : TT) {K : KT} {P : PT} {l0 : Nat} {V : VT} {res : Int32 × VT} (hf : f_X7_faultOf K P l0 V = some res) : CT l D T yX7_faultOf cX7_faultOf 5 (some .int) rm_X7_faultOf K P V [.ref l0] (some (.int res.1)) res.2 :=
  fun _ => CT_of pn_X7 (cat_a cat_0) (Nat.le_of_ble_eq_true rfl) [some (.ref l0), none, none, none, none] rfl (fun _ _ _ h => w_X7_faultOf_0 h hf)
