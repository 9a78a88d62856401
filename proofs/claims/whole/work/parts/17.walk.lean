/-! QuotedLayersModel.readBack()I -/
def rm_X7_readBack : Room := { frames := 4, cells := 0, slots := 0, locals := 92 }
theorem rf_X7_readBack_X7_readBy : RF rm_X7_readBy rm_X7_readBack 9 := ⟨⟨by decide, by decide⟩, rfl, rfl⟩
def f_X7_readBack_7 (K : KT) (P : PT) : Nat → Nat → Int32 → VT → Option (Int32 × VT)
  | 0, _, _, _ => none
  | n + 1, l0, l1, V => if l1 < 0 then (some ((-6 : Int32), V)) else (sI K V l0 5 14 l1 fun V1 => gR K P l0 5 8 fun b2 => aI K V1 0 b2 l1 fun x3 => cV K l0 5 (f_X7_readBy K P l0 x3 V1) fun x5 V4 => if x5 < 0 then ((f_X7_readBack_7 K P n) l0 (l1 + (-1 : Int32)) V4) else (some (x5, V4)))
def f_X7_readBack (K : KT) (P : PT) (l0 : Nat) (V : VT) : Option (Int32 × VT) :=
  gI K V l0 5 7 fun x1 => f_X7_readBack_7 K P FU l0 (x1 - ((1 : Int32))) V
set_option maxRecDepth 20000 in
theorem w_X7_readBack_7 {g : GT} {K : KT} {P : PT} {res : Int32 × VT} (h : OK g RX7 cX7_readBack 3 (some .int)) : ∀ (n : Nat) (l0 : Nat) (l1 : Int32) (V : VT), f_X7_readBack_7 K P n l0 l1 V = some res → J g rm_X7_readBack (QF g (some (.int res.1)) K P res.2 0 0) 3 K P V 0 0 7 [some (.ref l0), some (.int l1), none] [] := by
  intro n
  induction n with
  | zero => intro l0 l1 V hf; rw [f_X7_readBack_7] at hf; cases hf
  | succ n ih =>
    intro l0 l1 V hf
    rw [f_X7_readBack_7] at hf
    refine j_iload_n (q := 8) h dX7_readBack_7 rfl rfl ?_
    refine j_if_lt (q := 11) 39 h dX7_readBack_8 (by decide) rfl hf (fun hf => ?_) (fun hf => ?_)
    · refine j_bipush (q := 41) (-6) h dX7_readBack_39 kb_m6 rfl ?_
      exact j_iret h dX7_readBack_41 hf
    · refine j_aload_n (q := 12) h dX7_readBack_11 rfl rfl ?_
      refine j_iload_n (q := 13) h dX7_readBack_12 rfl rfl ?_
      refine j_sI (q := 16) h tyX7 tyX7_ok nmX7 uin_X7 rfl rfl (by decide) rfl rfl (by decide +kernel) fl_X7_104 dX7_readBack_13 rfl hf (fun hf => ?_)
      refine j_aload_n (q := 17) h dX7_readBack_16 rfl rfl ?_
      refine j_aload_n (q := 18) h dX7_readBack_17 rfl rfl ?_
      refine j_gR (q := 21) h uin_X7 rfl rfl (by decide) rfl fl_X7_28 dX7_readBack_18 rfl hf (fun b2 hf => ?_)
      refine j_iload_n (q := 22) h dX7_readBack_21 rfl rfl ?_
      refine j_iald (q := 23) h dX7_readBack_22 rfl hf (fun hf => ?_)
      refine j_cVi (q := 26) (As := [.int _]) h rfl hf (fun _ hx => ct_X7_readBy _ _ _ hx) ml_X7_130 vw_X7_readBy rf_X7_readBack_X7_readBy ⟨Nat.zero_le _, Nat.zero_le _⟩ (Nat.le_of_ble_eq_true rfl) dX7_readBack_23 rfl (fun _ _ hf => ?_)
      refine j_istore_n (q := 27) [_, _, _] h dX7_readBack_26 rfl (by decide) rfl rfl ?_
      refine j_iload_n (q := 28) h dX7_readBack_27 rfl rfl ?_
      refine j_if_lt (q := 31) 33 h dX7_readBack_28 (by decide) rfl hf (fun hf => ?_) (fun hf => ?_)
      · refine j_iinc (q := 36) _ [_, _, _] h dX7_readBack_33 rfl (by decide) rfl (kc_m1 _) rfl rfl ?_
        refine j_goto 7 h dX7_readBack_36 (by decide) ?_
        exact j_sub (lsub_s (lsub_s (lsub_n lsub_0))) (ih _ _ _ hf)
      · refine j_iload_n (q := 32) h dX7_readBack_31 rfl rfl ?_
        exact j_iret h dX7_readBack_32 hf
set_option maxRecDepth 20000 in
theorem w_X7_readBack_0 {g : GT} {K : KT} {P : PT} {res : Int32 × VT} (h : OK g RX7 cX7_readBack 3 (some .int)) {l0 : Nat} {V : VT} (hf : f_X7_readBack K P l0 V = some res) : J g rm_X7_readBack (QF g (some (.int res.1)) K P res.2 0 0) 3 K P V 0 0 0 [some (.ref l0), none, none] [] := by
  rw [f_X7_readBack] at hf
  refine j_aload_n (q := 1) h dX7_readBack_0 rfl rfl ?_
  refine j_gI (q := 4) h uin_X7 rfl rfl (by decide) rfl fl_X7_84 dX7_readBack_1 rfl hf (fun hf => ?_)
  refine j_iconst (q := 5) (1) h dX7_readBack_4 ki_1 rfl ?_
  refine j_isub (q := 6) h dX7_readBack_5 rfl ?_
  refine j_istore_n (q := 7) [_, _, _] h dX7_readBack_6 rfl (by decide) rfl rfl ?_
  exact j_sub (lsub_s (lsub_s (lsub_n lsub_0))) (w_X7_readBack_7 h FU _ _ _ hf)
theorem ct_X7_readBack (l : Launch) (D : va_G) (T : TT) {K : KT} {P : PT} {l0 : Nat} {V : VT} {res : Int32 × VT} (hf : f_X7_readBack K P l0 V = some res) : CT l D T yX7_readBack cX7_readBack 3 (some .int) rm_X7_readBack K P V [.ref l0] (some (.int res.1)) res.2 :=
  fun _ => CT_of pn_X7 (cat_a cat_0) (Nat.le_of_ble_eq_true rfl) [some (.ref l0), none, none] rfl (fun _ _ _ h => w_X7_readBack_0 h hf)
/-! QuotedLayersModel.layPad()V -/
def rm_X7_layPad : Room := { frames := 0, cells := 0, slots := 0, locals := 0 }
def f_X7_layPad_10 (K : KT) (P : PT) : Nat → Nat → Int32 → VT → Option (Unit × VT)
  | 0, _, _, _ => none
  | n + 1, l0, l1, V => gI K V l0 5 0 fun x1 => if l1 < x1 then (gR K P l0 5 12 fun b2 => gR K P l0 5 1 fun b3 => aI K V 0 b3 l1 fun x4 => sA K V b2 l1 x4 fun V5 => (f_X7_layPad_10 K P n) l0 (l1 + (1 : Int32)) V5) else (some ((), V))
def f_X7_layPad (K : KT) (P : PT) (l0 : Nat) (V : VT) : Option (Unit × VT) :=
  gI K V l0 5 0 fun x1 => sI K V l0 5 11 x1 fun V2 => f_X7_layPad_10 K P FU l0 ((0 : Int32)) V2
set_option maxRecDepth 20000 in
theorem w_X7_layPad_10 {g : GT} {K : KT} {P : PT} {res : Unit × VT} (h : OK g RX7 cX7_layPad 2 none) : ∀ (n : Nat) (l0 : Nat) (l1 : Int32) (V : VT), f_X7_layPad_10 K P n l0 l1 V = some res → J g rm_X7_layPad (QF g none K P res.2 0 0) 2 K P V 0 0 10 [some (.ref l0), some (.int l1)] [] := by
  intro n
  induction n with
  | zero => intro l0 l1 V hf; rw [f_X7_layPad_10] at hf; cases hf
  | succ n ih =>
    intro l0 l1 V hf
    rw [f_X7_layPad_10] at hf
    refine j_iload_n (q := 11) h dX7_layPad_10 rfl rfl ?_
    refine j_aload_n (q := 12) h dX7_layPad_11 rfl rfl ?_
    refine j_gI (q := 15) h uin_X7 rfl rfl (by decide) rfl fl_X7_67 dX7_layPad_12 rfl hf (fun hf => ?_)
    refine j_icmp_ge (q := 18) 36 h dX7_layPad_15 (by decide) rfl hf (fun hf => ?_) (fun hf => ?_)
    · exact j_vret h dX7_layPad_36 hf
    · refine j_aload_n (q := 19) h dX7_layPad_18 rfl rfl ?_
      refine j_gR (q := 22) h uin_X7 rfl rfl (by decide) rfl fl_X7_38 dX7_layPad_19 rfl hf (fun b2 hf => ?_)
      refine j_iload_n (q := 23) h dX7_layPad_22 rfl rfl ?_
      refine j_aload_n (q := 24) h dX7_layPad_23 rfl rfl ?_
      refine j_gR (q := 27) h uin_X7 rfl rfl (by decide) rfl fl_X7_7 dX7_layPad_24 rfl hf (fun b3 hf => ?_)
      refine j_iload_n (q := 28) h dX7_layPad_27 rfl rfl ?_
      refine j_iald (q := 29) h dX7_layPad_28 rfl hf (fun hf => ?_)
      refine j_iast (q := 30) h dX7_layPad_29 rfl hf (fun hf => ?_)
      refine j_iinc (q := 33) _ [_, _] h dX7_layPad_30 rfl (by decide) rfl (kc_1 _) rfl rfl ?_
      refine j_goto 10 h dX7_layPad_33 (by decide) ?_
      exact j_sub (lsub_s (lsub_s lsub_0)) (ih _ _ _ hf)
set_option maxRecDepth 20000 in
theorem w_X7_layPad_0 {g : GT} {K : KT} {P : PT} {res : Unit × VT} (h : OK g RX7 cX7_layPad 2 none) {l0 : Nat} {V : VT} (hf : f_X7_layPad K P l0 V = some res) : J g rm_X7_layPad (QF g none K P res.2 0 0) 2 K P V 0 0 0 [some (.ref l0), none] [] := by
  rw [f_X7_layPad] at hf
  refine j_aload_n (q := 1) h dX7_layPad_0 rfl rfl ?_
  refine j_aload_n (q := 2) h dX7_layPad_1 rfl rfl ?_
  refine j_gI (q := 5) h uin_X7 rfl rfl (by decide) rfl fl_X7_67 dX7_layPad_2 rfl hf (fun hf => ?_)
  refine j_sI (q := 8) h tyX7 tyX7_ok nmX7 uin_X7 rfl rfl (by decide) rfl rfl (by decide +kernel) fl_X7_94 dX7_layPad_5 rfl hf (fun hf => ?_)
  refine j_iconst (q := 9) (0) h dX7_layPad_8 ki_0 rfl ?_
  refine j_istore_n (q := 10) [_, _] h dX7_layPad_9 rfl (by decide) rfl rfl ?_
  exact j_sub (lsub_s (lsub_s lsub_0)) (w_X7_layPad_10 h FU _ _ _ hf)
theorem ct_X7_layPad (l : Launch) (D : va_G) (T : TT) {K : KT} {P : PT} {l0 : Nat} {V : VT} {res : Unit × VT} (hf : f_X7_layPad K P l0 V = some res) : CT l D T yX7_layPad cX7_layPad 2 none rm_X7_layPad K P V [.ref l0] none res.2 :=
  fun _ => CT_of pn_X7 (cat_a cat_0) (Nat.le_of_ble_eq_true rfl) [some (.ref l0), none] rfl (fun _ _ _ h => w_X7_layPad_0 h hf)
/-! QuotedLayersModel.read(I)I -/
def rm_X7_read : Room := { frames := 5, cells := 0, slots := 0, locals := 114 }
theorem rf_X7_read_X7_in : RF rm_X7_in rm_X7_read 3 := ⟨⟨by decide, by decide⟩, rfl, rfl⟩
theorem rf_X7_read_X7_layPad : RF rm_X7_layPad rm_X7_read 2 := ⟨⟨by decide, by decide⟩, rfl, rfl⟩
theorem rf_X7_read_X7_readBack : RF rm_X7_readBack rm_X7_read 3 := ⟨⟨by decide, by decide⟩, rfl, rfl⟩
def f_X7_read_30 (K : KT) (P : PT) (l0 : Nat) (l1 : Int32) (l2 : Int32) (V : VT) : Option (Int32 × VT) :=
  if l2 < 0 then (some ((-6 : Int32), V)) else (if l1 = ((-1 : Int32)) then (gI K V l0 5 14 fun x1 => some (x1, V)) else (some (l2, V)))
def f_X7_read (K : KT) (P : PT) (l0 : Nat) (l1 : Int32) (V : VT) : Option (Int32 × VT) :=
  gI K V l0 5 0 fun x1 => if x1 = 0 then (some ((-3 : Int32), V)) else (cV K l0 5 (f_X7_layPad K P l0 V) fun u3 V2 => cV K l0 5 (f_X7_readBack K P l0 V2) fun x5 V4 => if l1 = ((-1 : Int32)) then (f_X7_read_30 K P l0 l1 x5 V4) else (if l1 = ((-2 : Int32)) then (f_X7_read_30 K P l0 l1 x5 V4) else (if x5 < 0 then (if l1 = ((-3 : Int32)) then (gI K V4 l0 5 11 fun x11 => some (x11, V4)) else (gI K V4 l0 5 11 fun x6 => cS (f_X7_in K P l1 ((0 : Int32)) (x6 - ((1 : Int32))) V4) fun x8 V7 => if x8 = 0 then (some ((-6 : Int32), V7)) else (gR K P l0 5 12 fun b9 => aI K V7 0 b9 l1 fun x10 => some (x10, V7)))) else (some ((-6 : Int32), V4)))))
set_option maxRecDepth 20000 in
theorem w_X7_read_30 {g : GT} {K : KT} {P : PT} {res : Int32 × VT} (h : OK g RX7 cX7_read 3 (some .int)) {l0 : Nat} {l1 : Int32} {l2 : Int32} {V : VT} (hf : f_X7_read_30 K P l0 l1 l2 V = some res) : J g rm_X7_read (QF g (some (.int res.1)) K P res.2 0 0) 3 K P V 0 0 30 [some (.ref l0), some (.int l1), some (.int l2)] [] := by
  rw [f_X7_read_30] at hf
  refine j_iload_n (q := 31) h dX7_read_30 rfl rfl ?_
  refine j_if_ge (q := 34) 39 h dX7_read_31 (by decide) rfl hf (fun hf => ?_) (fun hf => ?_)
  · refine j_iload_n (q := 40) h dX7_read_39 rfl rfl ?_
    refine j_iconst (q := 41) (-1) h dX7_read_40 ki_m1 rfl ?_
    refine j_icmp_ne (q := 44) 51 h dX7_read_41 (by decide) rfl hf (fun hf => ?_) (fun hf => ?_)
    · refine j_iload_n (q := 52) h dX7_read_51 rfl rfl ?_
      exact j_iret h dX7_read_52 hf
    · refine j_aload_n (q := 45) h dX7_read_44 rfl rfl ?_
      refine j_gI (q := 48) h uin_X7 rfl rfl (by decide) rfl fl_X7_104 dX7_read_45 rfl hf (fun hf => ?_)
      refine j_goto 52 h dX7_read_48 (by decide) ?_
      exact j_iret h dX7_read_52 hf
  · refine j_bipush (q := 36) (-6) h dX7_read_34 kb_m6 rfl ?_
    refine j_goto 52 h dX7_read_36 (by decide) ?_
    exact j_iret h dX7_read_52 hf
set_option maxRecDepth 20000 in
theorem w_X7_read_0 {g : GT} {K : KT} {P : PT} {res : Int32 × VT} (h : OK g RX7 cX7_read 3 (some .int)) {l0 : Nat} {l1 : Int32} {V : VT} (hf : f_X7_read K P l0 l1 V = some res) : J g rm_X7_read (QF g (some (.int res.1)) K P res.2 0 0) 3 K P V 0 0 0 [some (.ref l0), some (.int l1), none] [] := by
  rw [f_X7_read] at hf
  refine j_aload_n (q := 1) h dX7_read_0 rfl rfl ?_
  refine j_gI (q := 4) h uin_X7 rfl rfl (by decide) rfl fl_X7_67 dX7_read_1 rfl hf (fun hf => ?_)
  refine j_if_ne (q := 7) 10 h dX7_read_4 (by decide) rfl hf (fun hf => ?_) (fun hf => ?_)
  · refine j_aload_n (q := 11) h dX7_read_10 rfl rfl ?_
    refine j_cVv (q := 14) (As := []) h rfl hf (fun _ hx => ct_X7_layPad _ _ _ hx) ml_X7_133 vw_X7_layPad rf_X7_read_X7_layPad ⟨Nat.zero_le _, Nat.zero_le _⟩ (Nat.le_of_ble_eq_true rfl) dX7_read_11 rfl (fun _ _ hf => ?_)
    refine j_aload_n (q := 15) h dX7_read_14 rfl rfl ?_
    refine j_cVi (q := 18) (As := []) h rfl hf (fun _ hx => ct_X7_readBack _ _ _ hx) ml_X7_136 vw_X7_readBack rf_X7_read_X7_readBack ⟨Nat.zero_le _, Nat.zero_le _⟩ (Nat.le_of_ble_eq_true rfl) dX7_read_15 rfl (fun _ _ hf => ?_)
    refine j_istore_n (q := 19) [_, _, _] h dX7_read_18 rfl (by decide) rfl rfl ?_
    refine j_iload_n (q := 20) h dX7_read_19 rfl rfl ?_
    refine j_iconst (q := 21) (-1) h dX7_read_20 ki_m1 rfl ?_
    refine j_icmp_eq (q := 24) 30 h dX7_read_21 (by decide) rfl hf (fun hf => ?_) (fun hf => ?_)
    · exact j_sub (lsub_s (lsub_s (lsub_s lsub_0))) (w_X7_read_30 h hf)
    · refine j_iload_n (q := 25) h dX7_read_24 rfl rfl ?_
      refine j_bipush (q := 27) (-2) h dX7_read_25 kb_m2 rfl ?_
      refine j_icmp_ne (q := 30) 53 h dX7_read_27 (by decide) rfl hf (fun hf => ?_) (fun hf => ?_)
      · refine j_iload_n (q := 54) h dX7_read_53 rfl rfl ?_
        refine j_if_lt (q := 57) 60 h dX7_read_54 (by decide) rfl hf (fun hf => ?_) (fun hf => ?_)
        · refine j_iload_n (q := 61) h dX7_read_60 rfl rfl ?_
          refine j_bipush (q := 63) (-3) h dX7_read_61 kb_m3 rfl ?_
          refine j_icmp_ne (q := 66) 73 h dX7_read_63 (by decide) rfl hf (fun hf => ?_) (fun hf => ?_)
          · refine j_iload_n (q := 74) h dX7_read_73 rfl rfl ?_
            refine j_iconst (q := 75) (0) h dX7_read_74 ki_0 rfl ?_
            refine j_aload_n (q := 76) h dX7_read_75 rfl rfl ?_
            refine j_gI (q := 79) h uin_X7 rfl rfl (by decide) rfl fl_X7_94 dX7_read_76 rfl hf (fun hf => ?_)
            refine j_iconst (q := 80) (1) h dX7_read_79 ki_1 rfl ?_
            refine j_isub (q := 81) h dX7_read_80 rfl ?_
            refine j_cSi (q := 84) (As := [.int _, .int _, .int _]) h rfl hf (fun _ hx => ct_X7_in _ _ _ hx) ml_X7_63 sw_X7_in rf_X7_read_X7_in ⟨Nat.zero_le _, Nat.zero_le _⟩ (Nat.le_of_ble_eq_true rfl) dX7_read_81 rfl (fun _ _ hf => ?_)
            refine j_if_eq (q := 87) 96 h dX7_read_84 (by decide) rfl hf (fun hf => ?_) (fun hf => ?_)
            · refine j_bipush (q := 98) (-6) h dX7_read_96 kb_m6 rfl ?_
              exact j_iret h dX7_read_98 hf
            · refine j_aload_n (q := 88) h dX7_read_87 rfl rfl ?_
              refine j_gR (q := 91) h uin_X7 rfl rfl (by decide) rfl fl_X7_38 dX7_read_88 rfl hf (fun b9 hf => ?_)
              refine j_iload_n (q := 92) h dX7_read_91 rfl rfl ?_
              refine j_iald (q := 93) h dX7_read_92 rfl hf (fun hf => ?_)
              refine j_goto 98 h dX7_read_93 (by decide) ?_
              exact j_iret h dX7_read_98 hf
          · refine j_aload_n (q := 67) h dX7_read_66 rfl rfl ?_
            refine j_gI (q := 70) h uin_X7 rfl rfl (by decide) rfl fl_X7_94 dX7_read_67 rfl hf (fun hf => ?_)
            refine j_goto 98 h dX7_read_70 (by decide) ?_
            exact j_iret h dX7_read_98 hf
        · refine j_bipush (q := 59) (-6) h dX7_read_57 kb_m6 rfl ?_
          exact j_iret h dX7_read_59 hf
      · exact j_sub (lsub_s (lsub_s (lsub_s lsub_0))) (w_X7_read_30 h hf)
  · refine j_bipush (q := 9) (-3) h dX7_read_7 kb_m3 rfl ?_
    exact j_iret h dX7_read_9 hf
theorem ct_X7_read (l : Launch) (D : va_G) (T : TT) {K : KT} {P : PT} {l0 : Nat} {l1 : Int32} {V : VT} {res : Int32 × VT} (hf : f_X7_read K P l0 l1 V = some res) : CT l D T yX7_read cX7_read 3 (some .int) rm_X7_read K P V [.ref l0, .int l1] (some (.int res.1)) res.2 :=
  fun _ => CT_of pn_X7 (cat_a (cat_i cat_0)) (Nat.le_of_ble_eq_true rfl) [some (.ref l0), some (.int l1), none] rfl (fun _ _ _ h => w_X7_read_0 h hf)
/-! QuotedLayersModel.howBack()I -/
def rm_X7_howBack : Room := { frames := 5, cells := 0, slots := 0, locals := 114 }
theorem rf_X7_howBack_X7_readBack : RF rm_X7_readBack rm_X7_howBack 3 := ⟨⟨by decide, by decide⟩, rfl, rfl⟩
def f_X7_howBack_67 (K : KT) (P : PT) (l1 : Int32) (V : VT) : Option (Int32 × VT) :=
  if l1 = 0 then (some ((1 : Int32), V)) else (some ((0 : Int32), V))
def f_X7_howBack_60 (K : KT) (P : PT) (k28 : Nat → Int32 → Int32 → VT → Option (Int32 × VT)) (l0 : Nat) (l2 : Int32) (s0 : Int32) (V : VT) : Option (Int32 × VT) :=
  k28 l0 s0 (l2 + (1 : Int32)) V
def f_X7_howBack_28 (K : KT) (P : PT) : Nat → Nat → Int32 → Int32 → VT → Option (Int32 × VT)
  | 0, _, _, _, _ => none
  | n + 1, l0, l1, l2, V => gI K V l0 5 16 fun x1 => if l2 < x1 then (if l1 = 0 then (f_X7_howBack_67 K P l1 V) else (gR K P l0 5 12 fun b2 => aI K V 0 b2 l2 fun x3 => gR K P l0 5 15 fun b4 => aI K V 0 b4 l2 fun x5 => if x3 = x5 then (f_X7_howBack_60 K P (f_X7_howBack_28 K P n) l0 l2 ((1 : Int32)) V) else (f_X7_howBack_60 K P (f_X7_howBack_28 K P n) l0 l2 ((0 : Int32)) V))) else (f_X7_howBack_67 K P l1 V)
def f_X7_howBack_25 (K : KT) (P : PT) (l0 : Nat) (s0 : Int32) (V : VT) : Option (Int32 × VT) :=
  f_X7_howBack_28 K P FU l0 s0 ((0 : Int32)) V
def f_X7_howBack (K : KT) (P : PT) (l0 : Nat) (V : VT) : Option (Int32 × VT) :=
  cV K l0 5 (f_X7_readBack K P l0 V) fun x2 V1 => if x2 < 0 then (gI K V1 l0 5 11 fun x3 => gI K V1 l0 5 16 fun x4 => if x3 = x4 then (f_X7_howBack_25 K P l0 ((1 : Int32)) V1) else (f_X7_howBack_25 K P l0 ((0 : Int32)) V1)) else (some ((2 : Int32), V1))
set_option maxRecDepth 20000 in
theorem w_X7_howBack_67 {g : GT} {K : KT} {P : PT} {res : Int32 × VT} (h : OK g RX7 cX7_howBack 3 (some .int)) {l1 : Int32} {V : VT} (hf : f_X7_howBack_67 K P l1 V = some res) : J g rm_X7_howBack (QF g (some (.int res.1)) K P res.2 0 0) 3 K P V 0 0 67 [none, some (.int l1), none] [] := by
  rw [f_X7_howBack_67] at hf
  refine j_iload_n (q := 68) h dX7_howBack_67 rfl rfl ?_
  refine j_if_eq (q := 71) 75 h dX7_howBack_68 (by decide) rfl hf (fun hf => ?_) (fun hf => ?_)
  · refine j_iconst (q := 76) (1) h dX7_howBack_75 ki_1 rfl ?_
    exact j_iret h dX7_howBack_76 hf
  · refine j_iconst (q := 72) (0) h dX7_howBack_71 ki_0 rfl ?_
    refine j_goto 76 h dX7_howBack_72 (by decide) ?_
    exact j_iret h dX7_howBack_76 hf
set_option maxRecDepth 20000 in
theorem w_X7_howBack_60 {g : GT} {K : KT} {P : PT} {res : Int32 × VT} (h : OK g RX7 cX7_howBack 3 (some .int)) {k28 : Nat → Int32 → Int32 → VT → Option (Int32 × VT)} (hk28 : ∀ (l0 : Nat) (l1 : Int32) (l2 : Int32) (V : VT), k28 l0 l1 l2 V = some res → J g rm_X7_howBack (QF g (some (.int res.1)) K P res.2 0 0) 3 K P V 0 0 28 [some (.ref l0), some (.int l1), some (.int l2)] []) {l0 : Nat} {l2 : Int32} {s0 : Int32} {V : VT} (hf : f_X7_howBack_60 K P k28 l0 l2 s0 V = some res) : J g rm_X7_howBack (QF g (some (.int res.1)) K P res.2 0 0) 3 K P V 0 0 60 [some (.ref l0), none, some (.int l2)] [.int s0] := by
  rw [f_X7_howBack_60] at hf
  refine j_istore_n (q := 61) [_, _, _] h dX7_howBack_60 rfl (by decide) rfl rfl ?_
  refine j_iinc (q := 64) _ [_, _, _] h dX7_howBack_61 rfl (by decide) rfl (kc_1 _) rfl rfl ?_
  refine j_goto 28 h dX7_howBack_64 (by decide) ?_
  exact j_sub (lsub_s (lsub_s (lsub_s lsub_0))) (hk28 _ _ _ _ hf)
set_option maxRecDepth 20000 in
theorem w_X7_howBack_28 {g : GT} {K : KT} {P : PT} {res : Int32 × VT} (h : OK g RX7 cX7_howBack 3 (some .int)) : ∀ (n : Nat) (l0 : Nat) (l1 : Int32) (l2 : Int32) (V : VT), f_X7_howBack_28 K P n l0 l1 l2 V = some res → J g rm_X7_howBack (QF g (some (.int res.1)) K P res.2 0 0) 3 K P V 0 0 28 [some (.ref l0), some (.int l1), some (.int l2)] [] := by
  intro n
  induction n with
  | zero => intro l0 l1 l2 V hf; rw [f_X7_howBack_28] at hf; cases hf
  | succ n ih =>
    intro l0 l1 l2 V hf
    rw [f_X7_howBack_28] at hf
    refine j_iload_n (q := 29) h dX7_howBack_28 rfl rfl ?_
    refine j_aload_n (q := 30) h dX7_howBack_29 rfl rfl ?_
    refine j_gI (q := 33) h uin_X7 rfl rfl (by decide) rfl fl_X7_139 dX7_howBack_30 rfl hf (fun hf => ?_)
    refine j_icmp_ge (q := 36) 67 h dX7_howBack_33 (by decide) rfl hf (fun hf => ?_) (fun hf => ?_)
    · exact j_sub (lsub_n (lsub_s (lsub_n lsub_0))) (w_X7_howBack_67 h hf)
    · refine j_iload_n (q := 37) h dX7_howBack_36 rfl rfl ?_
      refine j_if_eq (q := 40) 67 h dX7_howBack_37 (by decide) rfl hf (fun hf => ?_) (fun hf => ?_)
      · exact j_sub (lsub_n (lsub_s (lsub_n lsub_0))) (w_X7_howBack_67 h hf)
      · refine j_aload_n (q := 41) h dX7_howBack_40 rfl rfl ?_
        refine j_gR (q := 44) h uin_X7 rfl rfl (by decide) rfl fl_X7_38 dX7_howBack_41 rfl hf (fun b2 hf => ?_)
        refine j_iload_n (q := 45) h dX7_howBack_44 rfl rfl ?_
        refine j_iald (q := 46) h dX7_howBack_45 rfl hf (fun hf => ?_)
        refine j_aload_n (q := 47) h dX7_howBack_46 rfl rfl ?_
        refine j_gR (q := 50) h uin_X7 rfl rfl (by decide) rfl fl_X7_44 dX7_howBack_47 rfl hf (fun b4 hf => ?_)
        refine j_iload_n (q := 51) h dX7_howBack_50 rfl rfl ?_
        refine j_iald (q := 52) h dX7_howBack_51 rfl hf (fun hf => ?_)
        refine j_icmp_ne (q := 55) 59 h dX7_howBack_52 (by decide) rfl hf (fun hf => ?_) (fun hf => ?_)
        · refine j_iconst (q := 60) (0) h dX7_howBack_59 ki_0 rfl ?_
          exact j_sub (lsub_s (lsub_n (lsub_s lsub_0))) (w_X7_howBack_60 h ih hf)
        · refine j_iconst (q := 56) (1) h dX7_howBack_55 ki_1 rfl ?_
          refine j_goto 60 h dX7_howBack_56 (by decide) ?_
          exact j_sub (lsub_s (lsub_n (lsub_s lsub_0))) (w_X7_howBack_60 h ih hf)
set_option maxRecDepth 20000 in
theorem w_X7_howBack_25 {g : GT} {K : KT} {P : PT} {res : Int32 × VT} (h : OK g RX7 cX7_howBack 3 (some .int)) {l0 : Nat} {s0 : Int32} {V : VT} (hf : f_X7_howBack_25 K P l0 s0 V = some res) : J g rm_X7_howBack (QF g (some (.int res.1)) K P res.2 0 0) 3 K P V 0 0 25 [some (.ref l0), none, none] [.int s0] := by
  rw [f_X7_howBack_25] at hf
  refine j_istore_n (q := 26) [_, _, _] h dX7_howBack_25 rfl (by decide) rfl rfl ?_
  refine j_iconst (q := 27) (0) h dX7_howBack_26 ki_0 rfl ?_
  refine j_istore_n (q := 28) [_, _, _] h dX7_howBack_27 rfl (by decide) rfl rfl ?_
  exact j_sub (lsub_s (lsub_s (lsub_s lsub_0))) (w_X7_howBack_28 h FU _ _ _ _ hf)
set_option maxRecDepth 20000 in
theorem w_X7_howBack_0 {g : GT} {K : KT} {P : PT} {res : Int32 × VT} (h : OK g RX7 cX7_howBack 3 (some .int)) {l0 : Nat} {V : VT} (hf : f_X7_howBack K P l0 V = some res) : J g rm_X7_howBack (QF g (some (.int res.1)) K P res.2 0 0) 3 K P V 0 0 0 [some (.ref l0), none, none] [] := by
  rw [f_X7_howBack] at hf
  refine j_aload_n (q := 1) h dX7_howBack_0 rfl rfl ?_
  refine j_cVi (q := 4) (As := []) h rfl hf (fun _ hx => ct_X7_readBack _ _ _ hx) ml_X7_136 vw_X7_readBack rf_X7_howBack_X7_readBack ⟨Nat.zero_le _, Nat.zero_le _⟩ (Nat.le_of_ble_eq_true rfl) dX7_howBack_1 rfl (fun _ _ hf => ?_)
  refine j_if_lt (q := 7) 9 h dX7_howBack_4 (by decide) rfl hf (fun hf => ?_) (fun hf => ?_)
  · refine j_aload_n (q := 10) h dX7_howBack_9 rfl rfl ?_
    refine j_gI (q := 13) h uin_X7 rfl rfl (by decide) rfl fl_X7_94 dX7_howBack_10 rfl hf (fun hf => ?_)
    refine j_aload_n (q := 14) h dX7_howBack_13 rfl rfl ?_
    refine j_gI (q := 17) h uin_X7 rfl rfl (by decide) rfl fl_X7_139 dX7_howBack_14 rfl hf (fun hf => ?_)
    refine j_icmp_ne (q := 20) 24 h dX7_howBack_17 (by decide) rfl hf (fun hf => ?_) (fun hf => ?_)
    · refine j_iconst (q := 25) (0) h dX7_howBack_24 ki_0 rfl ?_
      exact j_sub (lsub_s (lsub_n (lsub_n lsub_0))) (w_X7_howBack_25 h hf)
    · refine j_iconst (q := 21) (1) h dX7_howBack_20 ki_1 rfl ?_
      refine j_goto 25 h dX7_howBack_21 (by decide) ?_
      exact j_sub (lsub_s (lsub_n (lsub_n lsub_0))) (w_X7_howBack_25 h hf)
  · refine j_iconst (q := 8) (2) h dX7_howBack_7 ki_2 rfl ?_
    exact j_iret h dX7_howBack_8 hf
theorem ct_X7_howBack (l : Launch) (D : va_G) (T : TT) {K : KT} {P : PT} {l0 : Nat} {V : VT} {res : Int32 × VT} (hf : f_X7_howBack K P l0 V = some res) : CT l D T yX7_howBack cX7_howBack 3 (some .int) rm_X7_howBack K P V [.ref l0] (some (.int res.1)) res.2 :=
  fun _ => CT_of pn_X7 (cat_a cat_0) (Nat.le_of_ble_eq_true rfl) [some (.ref l0), none, none] rfl (fun _ _ _ h => w_X7_howBack_0 h hf)
/-! QuotedLayersModel.keepText()V -/
def rm_X7_keepText : Room := { frames := 1, cells := 0, slots := 0, locals := 21 }
theorem rf_X7_keepText_X7_layText : RF rm_X7_layText rm_X7_keepText 2 := ⟨⟨by decide, by decide⟩, rfl, rfl⟩
def f_X7_keepText_14 (K : KT) (P : PT) : Nat → Nat → Int32 → VT → Option (Unit × VT)
  | 0, _, _, _ => none
  | n + 1, l0, l1, V => gI K V l0 5 9 fun x1 => if l1 < x1 then (gR K P l0 5 15 fun b2 => gR K P l0 5 10 fun b3 => aI K V 0 b3 l1 fun x4 => sA K V b2 l1 x4 fun V5 => (f_X7_keepText_14 K P n) l0 (l1 + (1 : Int32)) V5) else (some ((), V))
def f_X7_keepText (K : KT) (P : PT) (l0 : Nat) (V : VT) : Option (Unit × VT) :=
  cV K l0 5 (f_X7_layText K P l0 V) fun u2 V1 => gI K V1 l0 5 9 fun x3 => sI K V1 l0 5 16 x3 fun V4 => f_X7_keepText_14 K P FU l0 ((0 : Int32)) V4
set_option maxRecDepth 20000 in
theorem w_X7_keepText_14 {g : GT} {K : KT} {P : PT} {res : Unit × VT} (h : OK g RX7 cX7_keepText 2 none) : ∀ (n : Nat) (l0 : Nat) (l1 : Int32) (V : VT), f_X7_keepText_14 K P n l0 l1 V = some res → J g rm_X7_keepText (QF g none K P res.2 0 0) 2 K P V 0 0 14 [some (.ref l0), some (.int l1)] [] := by
  intro n
  induction n with
  | zero => intro l0 l1 V hf; rw [f_X7_keepText_14] at hf; cases hf
  | succ n ih =>
    intro l0 l1 V hf
    rw [f_X7_keepText_14] at hf
    refine j_iload_n (q := 15) h dX7_keepText_14 rfl rfl ?_
    refine j_aload_n (q := 16) h dX7_keepText_15 rfl rfl ?_
    refine j_gI (q := 19) h uin_X7 rfl rfl (by decide) rfl fl_X7_31 dX7_keepText_16 rfl hf (fun hf => ?_)
    refine j_icmp_ge (q := 22) 40 h dX7_keepText_19 (by decide) rfl hf (fun hf => ?_) (fun hf => ?_)
    · exact j_vret h dX7_keepText_40 hf
    · refine j_aload_n (q := 23) h dX7_keepText_22 rfl rfl ?_
      refine j_gR (q := 26) h uin_X7 rfl rfl (by decide) rfl fl_X7_44 dX7_keepText_23 rfl hf (fun b2 hf => ?_)
      refine j_iload_n (q := 27) h dX7_keepText_26 rfl rfl ?_
      refine j_aload_n (q := 28) h dX7_keepText_27 rfl rfl ?_
      refine j_gR (q := 31) h uin_X7 rfl rfl (by decide) rfl fl_X7_35 dX7_keepText_28 rfl hf (fun b3 hf => ?_)
      refine j_iload_n (q := 32) h dX7_keepText_31 rfl rfl ?_
      refine j_iald (q := 33) h dX7_keepText_32 rfl hf (fun hf => ?_)
      refine j_iast (q := 34) h dX7_keepText_33 rfl hf (fun hf => ?_)
      refine j_iinc (q := 37) _ [_, _] h dX7_keepText_34 rfl (by decide) rfl (kc_1 _) rfl rfl ?_
      refine j_goto 14 h dX7_keepText_37 (by decide) ?_
      exact j_sub (lsub_s (lsub_s lsub_0)) (ih _ _ _ hf)
set_option maxRecDepth 20000 in
theorem w_X7_keepText_0 {g : GT} {K : KT} {P : PT} {res : Unit × VT} (h : OK g RX7 cX7_keepText 2 none) {l0 : Nat} {V : VT} (hf : f_X7_keepText K P l0 V = some res) : J g rm_X7_keepText (QF g none K P res.2 0 0) 2 K P V 0 0 0 [some (.ref l0), none] [] := by
  rw [f_X7_keepText] at hf
  refine j_aload_n (q := 1) h dX7_keepText_0 rfl rfl ?_
  refine j_cVv (q := 4) (As := []) h rfl hf (fun _ hx => ct_X7_layText _ _ _ hx) ml_X7_111 vw_X7_layText rf_X7_keepText_X7_layText ⟨Nat.zero_le _, Nat.zero_le _⟩ (Nat.le_of_ble_eq_true rfl) dX7_keepText_1 rfl (fun _ _ hf => ?_)
  refine j_aload_n (q := 5) h dX7_keepText_4 rfl rfl ?_
  refine j_aload_n (q := 6) h dX7_keepText_5 rfl rfl ?_
  refine j_gI (q := 9) h uin_X7 rfl rfl (by decide) rfl fl_X7_31 dX7_keepText_6 rfl hf (fun hf => ?_)
  refine j_sI (q := 12) h tyX7 tyX7_ok nmX7 uin_X7 rfl rfl (by decide) rfl rfl (by decide +kernel) fl_X7_139 dX7_keepText_9 rfl hf (fun hf => ?_)
  refine j_iconst (q := 13) (0) h dX7_keepText_12 ki_0 rfl ?_
  refine j_istore_n (q := 14) [_, _] h dX7_keepText_13 rfl (by decide) rfl rfl ?_
  exact j_sub (lsub_s (lsub_s lsub_0)) (w_X7_keepText_14 h FU _ _ _ hf)
theorem ct_X7_keepText (l : Launch) (D : va_G) (T : TT) {K : KT} {P : PT} {l0 : Nat} {V : VT} {res : Unit × VT} (hf : f_X7_keepText K P l0 V = some res) : CT l D T yX7_keepText cX7_keepText 2 none rm_X7_keepText K P V [.ref l0] none res.2 :=
  fun _ => CT_of pn_X7 (cat_a cat_0) (Nat.le_of_ble_eq_true rfl) [some (.ref l0), none] rfl (fun _ _ _ h => w_X7_keepText_0 h hf)
/-! QuotedLayersModel.spills(I)I -/
def rm_X7_spills : Room := { frames := 6, cells := 0, slots := 0, locals := 136 }
theorem rf_X7_spills_X7_goThrough : RF rm_X7_goThrough rm_X7_spills 5 := ⟨⟨by decide, by decide⟩, rfl, rfl⟩
theorem rf_X7_spills_X7_howBack : RF rm_X7_howBack rm_X7_spills 3 := ⟨⟨by decide, by decide⟩, rfl, rfl⟩
theorem rf_X7_spills_X7_in : RF rm_X7_in rm_X7_spills 3 := ⟨⟨by decide, by decide⟩, rfl, rfl⟩
theorem rf_X7_spills_X7_keepText : RF rm_X7_keepText rm_X7_spills 2 := ⟨⟨by decide, by decide⟩, rfl, rfl⟩
def f_X7_spills (K : KT) (P : PT) (l0 : Nat) (l1 : Int32) (V : VT) : Option (Int32 × VT) :=
  gI K V l0 5 7 fun x1 => cS (f_X7_in K P l1 ((0 : Int32)) (x1 - ((1 : Int32))) V) fun x3 V2 => if x3 = 0 then (some ((-2 : Int32), V2)) else (cV K l0 5 (f_X7_keepText K P l0 V2) fun u5 V4 => gI K V4 l0 5 7 fun x6 => cV K l0 5 (f_X7_goThrough K P l0 x6 l1 V4) fun x8 V7 => if x8 < 0 then (some (x8, V7)) else (cV K l0 5 (f_X7_howBack K P l0 V7) fun x10 V9 => some (x10, V9)))
set_option maxRecDepth 20000 in
theorem w_X7_spills_0 {g : GT} {K : KT} {P : PT} {res : Int32 × VT} (h : OK g RX7 cX7_spills 3 (some .int)) {l0 : Nat} {l1 : Int32} {V : VT} (hf : f_X7_spills K P l0 l1 V = some res) : J g rm_X7_spills (QF g (some (.int res.1)) K P res.2 0 0) 3 K P V 0 0 0 [some (.ref l0), some (.int l1), none] [] := by
  rw [f_X7_spills] at hf
  refine j_iload_n (q := 1) h dX7_spills_0 rfl rfl ?_
  refine j_iconst (q := 2) (0) h dX7_spills_1 ki_0 rfl ?_
  refine j_aload_n (q := 3) h dX7_spills_2 rfl rfl ?_
  refine j_gI (q := 6) h uin_X7 rfl rfl (by decide) rfl fl_X7_84 dX7_spills_3 rfl hf (fun hf => ?_)
  refine j_iconst (q := 7) (1) h dX7_spills_6 ki_1 rfl ?_
  refine j_isub (q := 8) h dX7_spills_7 rfl ?_
  refine j_cSi (q := 11) (As := [.int _, .int _, .int _]) h rfl hf (fun _ hx => ct_X7_in _ _ _ hx) ml_X7_63 sw_X7_in rf_X7_spills_X7_in ⟨Nat.zero_le _, Nat.zero_le _⟩ (Nat.le_of_ble_eq_true rfl) dX7_spills_8 rfl (fun _ _ hf => ?_)
  refine j_if_ne (q := 14) 17 h dX7_spills_11 (by decide) rfl hf (fun hf => ?_) (fun hf => ?_)
  · refine j_aload_n (q := 18) h dX7_spills_17 rfl rfl ?_
    refine j_cVv (q := 21) (As := []) h rfl hf (fun _ hx => ct_X7_keepText _ _ _ hx) ml_X7_142 vw_X7_keepText rf_X7_spills_X7_keepText ⟨Nat.zero_le _, Nat.zero_le _⟩ (Nat.le_of_ble_eq_true rfl) dX7_spills_18 rfl (fun _ _ hf => ?_)
    refine j_aload_n (q := 22) h dX7_spills_21 rfl rfl ?_
    refine j_aload_n (q := 23) h dX7_spills_22 rfl rfl ?_
    refine j_gI (q := 26) h uin_X7 rfl rfl (by decide) rfl fl_X7_84 dX7_spills_23 rfl hf (fun hf => ?_)
    refine j_iload_n (q := 27) h dX7_spills_26 rfl rfl ?_
    refine j_cVi (q := 30) (As := [.int _, .int _]) h rfl hf (fun _ hx => ct_X7_goThrough _ _ _ hx) ml_X7_114 vw_X7_goThrough rf_X7_spills_X7_goThrough ⟨Nat.zero_le _, Nat.zero_le _⟩ (Nat.le_of_ble_eq_true rfl) dX7_spills_27 rfl (fun _ _ hf => ?_)
    refine j_istore_n (q := 31) [_, _, _] h dX7_spills_30 rfl (by decide) rfl rfl ?_
    refine j_iload_n (q := 32) h dX7_spills_31 rfl rfl ?_
    refine j_if_ge (q := 35) 39 h dX7_spills_32 (by decide) rfl hf (fun hf => ?_) (fun hf => ?_)
    · refine j_aload_n (q := 40) h dX7_spills_39 rfl rfl ?_
      refine j_cVi (q := 43) (As := []) h rfl hf (fun _ hx => ct_X7_howBack _ _ _ hx) ml_X7_145 vw_X7_howBack rf_X7_spills_X7_howBack ⟨Nat.zero_le _, Nat.zero_le _⟩ (Nat.le_of_ble_eq_true rfl) dX7_spills_40 rfl (fun _ _ hf => ?_)
      exact j_iret h dX7_spills_43 hf
    · refine j_iload_n (q := 36) h dX7_spills_35 rfl rfl ?_
      refine j_goto 43 h dX7_spills_36 (by decide) ?_
      exact j_iret h dX7_spills_43 hf
  · refine j_bipush (q := 16) (-2) h dX7_spills_14 kb_m2 rfl ?_
    exact j_iret h dX7_spills_16 hf
theorem ct_X7_spills (l : Launch) (D : va_G) (T : TT) {K : KT} {P : PT} {l0 : Nat} {l1 : Int32} {V : VT} {res : Int32 × VT} (hf : f_X7_spills K P l0 l1 V = some res) : CT l D T yX7_spills cX7_spills 3 (some .int) rm_X7_spills K P V [.ref l0, .int l1] (some (.int res.1)) res.2 :=
  fun _ => CT_of pn_X7 (cat_a (cat_i cat_0)) (Nat.le_of_ble_eq_true rfl) [some (.ref l0), some (.int l1), none] rfl (fun _ _ _ h => w_X7_spills_0 h hf)
/-! QuotedLayersModel.isRow()Z -/
def rm_X7_isRow : Room := { frames := 1, cells := 0, slots := 0, locals := 22 }
theorem rf_X7_isRow_X7_in : RF rm_X7_in rm_X7_isRow 3 := ⟨⟨by decide, by decide⟩, rfl, rfl⟩
def f_X7_isRow_55 (K : KT) (P : PT) (k12 : Nat → Int32 → Int32 → VT → Option (Int32 × VT)) (k26 : Nat → Int32 → Int32 → Int32 → VT → Option (Int32 × VT)) (l0 : Nat) (l2 : Int32) (l3 : Int32) (s0 : Int32) (V : VT) : Option (Int32 × VT) :=
  k26 l0 s0 l2 (l3 + (1 : Int32)) V
def f_X7_isRow_54 (K : KT) (P : PT) (k12 : Nat → Int32 → Int32 → VT → Option (Int32 × VT)) (k26 : Nat → Int32 → Int32 → Int32 → VT → Option (Int32 × VT)) (l0 : Nat) (l2 : Int32) (l3 : Int32) (V : VT) : Option (Int32 × VT) :=
  f_X7_isRow_55 K P k12 k26 l0 l2 l3 ((0 : Int32)) V
def f_X7_isRow_26 (K : KT) (P : PT) (k12 : Nat → Int32 → Int32 → VT → Option (Int32 × VT)) : Nat → Nat → Int32 → Int32 → Int32 → VT → Option (Int32 × VT)
  | 0, _, _, _, _, _ => none
  | n + 1, l0, l1, l2, l3, V => if l3 < l2 then (if l1 = 0 then (f_X7_isRow_54 K P k12 (f_X7_isRow_26 K P k12 n) l0 l2 l3 V) else (gR K P l0 5 1 fun b1 => aI K V 0 b1 l3 fun x2 => gR K P l0 5 1 fun b3 => aI K V 0 b3 l2 fun x4 => if x2 = x4 then (f_X7_isRow_54 K P k12 (f_X7_isRow_26 K P k12 n) l0 l2 l3 V) else (f_X7_isRow_55 K P k12 (f_X7_isRow_26 K P k12 n) l0 l2 l3 ((1 : Int32)) V))) else (k12 l0 l1 (l2 + (1 : Int32)) V)
def f_X7_isRow_12 (K : KT) (P : PT) : Nat → Nat → Int32 → Int32 → VT → Option (Int32 × VT)
  | 0, _, _, _, _ => none
  | n + 1, l0, l1, l2, V => gI K V l0 5 0 fun x1 => if l2 < x1 then (if l1 = 0 then (rB l1 V) else (f_X7_isRow_26 K P (f_X7_isRow_12 K P n) FU l0 l1 l2 ((0 : Int32)) V)) else (rB l1 V)
def f_X7_isRow (K : KT) (P : PT) (l0 : Nat) (V : VT) : Option (Int32 × VT) :=
  gI K V l0 5 0 fun x1 => cS (f_X7_in K P x1 ((1 : Int32)) ((5 : Int32)) V) fun x3 V2 => f_X7_isRow_12 K P FU l0 x3 ((0 : Int32)) V2
set_option maxRecDepth 20000 in
theorem w_X7_isRow_55 {g : GT} {K : KT} {P : PT} {res : Int32 × VT} (h : OK g RX7 cX7_isRow 4 (some .boolean)) {k12 : Nat → Int32 → Int32 → VT → Option (Int32 × VT)} {k26 : Nat → Int32 → Int32 → Int32 → VT → Option (Int32 × VT)} (hk12 : ∀ (l0 : Nat) (l1 : Int32) (l2 : Int32) (V : VT), k12 l0 l1 l2 V = some res → J g rm_X7_isRow (QF g (some (.int res.1)) K P res.2 0 0) 4 K P V 0 0 12 [some (.ref l0), some (.int l1), some (.int l2), none] []) (hk26 : ∀ (l0 : Nat) (l1 : Int32) (l2 : Int32) (l3 : Int32) (V : VT), k26 l0 l1 l2 l3 V = some res → J g rm_X7_isRow (QF g (some (.int res.1)) K P res.2 0 0) 4 K P V 0 0 26 [some (.ref l0), some (.int l1), some (.int l2), some (.int l3)] []) {l0 : Nat} {l2 : Int32} {l3 : Int32} {s0 : Int32} {V : VT} (hf : f_X7_isRow_55 K P k12 k26 l0 l2 l3 s0 V = some res) : J g rm_X7_isRow (QF g (some (.int res.1)) K P res.2 0 0) 4 K P V 0 0 55 [some (.ref l0), none, some (.int l2), some (.int l3)] [.int s0] := by
  rw [f_X7_isRow_55] at hf
  refine j_istore_n (q := 56) [_, _, _, _] h dX7_isRow_55 rfl (by decide) rfl rfl ?_
  refine j_iinc (q := 59) _ [_, _, _, _] h dX7_isRow_56 rfl (by decide) rfl (kc_1 _) rfl rfl ?_
  refine j_goto 26 h dX7_isRow_59 (by decide) ?_
  exact j_sub (lsub_s (lsub_s (lsub_s (lsub_s lsub_0)))) (hk26 _ _ _ _ _ hf)
set_option maxRecDepth 20000 in
theorem w_X7_isRow_54 {g : GT} {K : KT} {P : PT} {res : Int32 × VT} (h : OK g RX7 cX7_isRow 4 (some .boolean)) {k12 : Nat → Int32 → Int32 → VT → Option (Int32 × VT)} {k26 : Nat → Int32 → Int32 → Int32 → VT → Option (Int32 × VT)} (hk12 : ∀ (l0 : Nat) (l1 : Int32) (l2 : Int32) (V : VT), k12 l0 l1 l2 V = some res → J g rm_X7_isRow (QF g (some (.int res.1)) K P res.2 0 0) 4 K P V 0 0 12 [some (.ref l0), some (.int l1), some (.int l2), none] []) (hk26 : ∀ (l0 : Nat) (l1 : Int32) (l2 : Int32) (l3 : Int32) (V : VT), k26 l0 l1 l2 l3 V = some res → J g rm_X7_isRow (QF g (some (.int res.1)) K P res.2 0 0) 4 K P V 0 0 26 [some (.ref l0), some (.int l1), some (.int l2), some (.int l3)] []) {l0 : Nat} {l2 : Int32} {l3 : Int32} {V : VT} (hf : f_X7_isRow_54 K P k12 k26 l0 l2 l3 V = some res) : J g rm_X7_isRow (QF g (some (.int res.1)) K P res.2 0 0) 4 K P V 0 0 54 [some (.ref l0), none, some (.int l2), some (.int l3)] [] := by
  rw [f_X7_isRow_54] at hf
  refine j_iconst (q := 55) (0) h dX7_isRow_54 ki_0 rfl ?_
  exact j_sub (lsub_s (lsub_n (lsub_s (lsub_s lsub_0)))) (w_X7_isRow_55 h hk12 hk26 hf)
set_option maxRecDepth 20000 in
theorem w_X7_isRow_26 {g : GT} {K : KT} {P : PT} {res : Int32 × VT} (h : OK g RX7 cX7_isRow 4 (some .boolean)) {k12 : Nat → Int32 → Int32 → VT → Option (Int32 × VT)} (hk12 : ∀ (l0 : Nat) (l1 : Int32) (l2 : Int32) (V : VT), k12 l0 l1 l2 V = some res → J g rm_X7_isRow (QF g (some (.int res.1)) K P res.2 0 0) 4 K P V 0 0 12 [some (.ref l0), some (.int l1), some (.int l2), none] []) : ∀ (n : Nat) (l0 : Nat) (l1 : Int32) (l2 : Int32) (l3 : Int32) (V : VT), f_X7_isRow_26 K P k12 n l0 l1 l2 l3 V = some res → J g rm_X7_isRow (QF g (some (.int res.1)) K P res.2 0 0) 4 K P V 0 0 26 [some (.ref l0), some (.int l1), some (.int l2), some (.int l3)] [] := by
  intro n
  induction n with
  | zero => intro l0 l1 l2 l3 V hf; rw [f_X7_isRow_26] at hf; cases hf
  | succ n ih =>
    intro l0 l1 l2 l3 V hf
    rw [f_X7_isRow_26] at hf
    refine j_iload_n (q := 27) h dX7_isRow_26 rfl rfl ?_
    refine j_iload_n (q := 28) h dX7_isRow_27 rfl rfl ?_
    refine j_icmp_ge (q := 31) 62 h dX7_isRow_28 (by decide) rfl hf (fun hf => ?_) (fun hf => ?_)
    · refine j_iinc (q := 65) _ [_, _, _, _] h dX7_isRow_62 rfl (by decide) rfl (kc_1 _) rfl rfl ?_
      refine j_goto 12 h dX7_isRow_65 (by decide) ?_
      exact j_sub (lsub_s (lsub_s (lsub_s (lsub_n lsub_0)))) (hk12 _ _ _ _ hf)
    · refine j_iload_n (q := 32) h dX7_isRow_31 rfl rfl ?_
      refine j_if_eq (q := 35) 54 h dX7_isRow_32 (by decide) rfl hf (fun hf => ?_) (fun hf => ?_)
      · exact j_sub (lsub_s (lsub_n (lsub_s (lsub_s lsub_0)))) (w_X7_isRow_54 h hk12 ih hf)
      · refine j_aload_n (q := 36) h dX7_isRow_35 rfl rfl ?_
        refine j_gR (q := 39) h uin_X7 rfl rfl (by decide) rfl fl_X7_7 dX7_isRow_36 rfl hf (fun b1 hf => ?_)
        refine j_iload_n (q := 40) h dX7_isRow_39 rfl rfl ?_
        refine j_iald (q := 41) h dX7_isRow_40 rfl hf (fun hf => ?_)
        refine j_aload_n (q := 42) h dX7_isRow_41 rfl rfl ?_
        refine j_gR (q := 45) h uin_X7 rfl rfl (by decide) rfl fl_X7_7 dX7_isRow_42 rfl hf (fun b3 hf => ?_)
        refine j_iload_n (q := 46) h dX7_isRow_45 rfl rfl ?_
        refine j_iald (q := 47) h dX7_isRow_46 rfl hf (fun hf => ?_)
        refine j_icmp_eq (q := 50) 54 h dX7_isRow_47 (by decide) rfl hf (fun hf => ?_) (fun hf => ?_)
        · exact j_sub (lsub_s (lsub_n (lsub_s (lsub_s lsub_0)))) (w_X7_isRow_54 h hk12 ih hf)
        · refine j_iconst (q := 51) (1) h dX7_isRow_50 ki_1 rfl ?_
          refine j_goto 55 h dX7_isRow_51 (by decide) ?_
          exact j_sub (lsub_s (lsub_n (lsub_s (lsub_s lsub_0)))) (w_X7_isRow_55 h hk12 ih hf)
set_option maxRecDepth 20000 in
theorem w_X7_isRow_12 {g : GT} {K : KT} {P : PT} {res : Int32 × VT} (h : OK g RX7 cX7_isRow 4 (some .boolean)) : ∀ (n : Nat) (l0 : Nat) (l1 : Int32) (l2 : Int32) (V : VT), f_X7_isRow_12 K P n l0 l1 l2 V = some res → J g rm_X7_isRow (QF g (some (.int res.1)) K P res.2 0 0) 4 K P V 0 0 12 [some (.ref l0), some (.int l1), some (.int l2), none] [] := by
  intro n
  induction n with
  | zero => intro l0 l1 l2 V hf; rw [f_X7_isRow_12] at hf; cases hf
  | succ n ih =>
    intro l0 l1 l2 V hf
    rw [f_X7_isRow_12] at hf
    refine j_iload_n (q := 13) h dX7_isRow_12 rfl rfl ?_
    refine j_aload_n (q := 14) h dX7_isRow_13 rfl rfl ?_
    refine j_gI (q := 17) h uin_X7 rfl rfl (by decide) rfl fl_X7_67 dX7_isRow_14 rfl hf (fun hf => ?_)
    refine j_icmp_ge (q := 20) 68 h dX7_isRow_17 (by decide) rfl hf (fun hf => ?_) (fun hf => ?_)
    · refine j_iload_n (q := 69) h dX7_isRow_68 rfl rfl ?_
      exact j_zret h dX7_isRow_69 hf
    · refine j_iload_n (q := 21) h dX7_isRow_20 rfl rfl ?_
      refine j_if_eq (q := 24) 68 h dX7_isRow_21 (by decide) rfl hf (fun hf => ?_) (fun hf => ?_)
      · refine j_iload_n (q := 69) h dX7_isRow_68 rfl rfl ?_
        exact j_zret h dX7_isRow_69 hf
      · refine j_iconst (q := 25) (0) h dX7_isRow_24 ki_0 rfl ?_
        refine j_istore_n (q := 26) [_, _, _, _] h dX7_isRow_25 rfl (by decide) rfl rfl ?_
        exact j_sub (lsub_s (lsub_s (lsub_s (lsub_s lsub_0)))) (w_X7_isRow_26 h ih FU _ _ _ _ _ hf)
set_option maxRecDepth 20000 in
theorem w_X7_isRow_0 {g : GT} {K : KT} {P : PT} {res : Int32 × VT} (h : OK g RX7 cX7_isRow 4 (some .boolean)) {l0 : Nat} {V : VT} (hf : f_X7_isRow K P l0 V = some res) : J g rm_X7_isRow (QF g (some (.int res.1)) K P res.2 0 0) 4 K P V 0 0 0 [some (.ref l0), none, none, none] [] := by
  rw [f_X7_isRow] at hf
  refine j_aload_n (q := 1) h dX7_isRow_0 rfl rfl ?_
  refine j_gI (q := 4) h uin_X7 rfl rfl (by decide) rfl fl_X7_67 dX7_isRow_1 rfl hf (fun hf => ?_)
  refine j_iconst (q := 5) (1) h dX7_isRow_4 ki_1 rfl ?_
  refine j_iconst (q := 6) (5) h dX7_isRow_5 ki_5 rfl ?_
  refine j_cSi (q := 9) (As := [.int _, .int _, .int _]) h rfl hf (fun _ hx => ct_X7_in _ _ _ hx) ml_X7_63 sw_X7_in rf_X7_isRow_X7_in ⟨Nat.zero_le _, Nat.zero_le _⟩ (Nat.le_of_ble_eq_true rfl) dX7_isRow_6 rfl (fun _ _ hf => ?_)
  refine j_istore_n (q := 10) [_, _, _, _] h dX7_isRow_9 rfl (by decide) rfl rfl ?_
  refine j_iconst (q := 11) (0) h dX7_isRow_10 ki_0 rfl ?_
  refine j_istore_n (q := 12) [_, _, _, _] h dX7_isRow_11 rfl (by decide) rfl rfl ?_
  exact j_sub (lsub_s (lsub_s (lsub_s (lsub_n lsub_0)))) (w_X7_isRow_12 h FU _ _ _ _ hf)
theorem ct_X7_isRow (l : Launch) (D : va_G) (T : TT) {K : KT} {P : PT} {l0 : Nat} {V : VT} {res : Int32 × VT} (hf : f_X7_isRow K P l0 V = some res) : CT l D T yX7_isRow cX7_isRow 4 (some .boolean) rm_X7_isRow K P V [.ref l0] (some (.int res.1)) res.2 :=
  fun _ => CT_of pn_X7 (cat_a cat_0) (Nat.le_of_ble_eq_true rfl) [some (.ref l0), none, none, none] rfl (fun _ _ _ h => w_X7_isRow_0 h hf)
/-! QuotedLayersModel.spill(II)I -/
def rm_X7_spill : Room := { frames := 6, cells := 0, slots := 0, locals := 136 }
theorem rf_X7_spill_X7_goThrough : RF rm_X7_goThrough rm_X7_spill 5 := ⟨⟨by decide, by decide⟩, rfl, rfl⟩
theorem rf_X7_spill_X7_howBack : RF rm_X7_howBack rm_X7_spill 3 := ⟨⟨by decide, by decide⟩, rfl, rfl⟩
theorem rf_X7_spill_X7_in : RF rm_X7_in rm_X7_spill 3 := ⟨⟨by decide, by decide⟩, rfl, rfl⟩
theorem rf_X7_spill_X7_isRow : RF rm_X7_isRow rm_X7_spill 4 := ⟨⟨by decide, by decide⟩, rfl, rfl⟩
def f_X7_spill_182 (K : KT) (P : PT) (k32 : Nat → Int32 → Int32 → Int32 → Int32 → VT → Option (Int32 × VT)) (k48 : Nat → Int32 → Int32 → Int32 → Int32 → Int32 → VT → Option (Int32 × VT)) (l0 : Nat) (l1 : Int32) (l2 : Int32) (l3 : Int32) (l4 : Int32) (l5 : Int32) (V : VT) : Option (Int32 × VT) :=
  k48 l0 l1 l2 l3 l4 (l5 + (1 : Int32)) V
def f_X7_spill_64 (K : KT) (P : PT) (k32 : Nat → Int32 → Int32 → Int32 → Int32 → VT → Option (Int32 × VT)) (k48 : Nat → Int32 → Int32 → Int32 → Int32 → Int32 → VT → Option (Int32 × VT)) : Nat → Nat → Int32 → Int32 → Int32 → Int32 → Int32 → Int32 → Int32 → VT → Option (Int32 × VT)
  | 0, _, _, _, _, _, _, _, _, _ => none
  | n + 1, l0, l1, l2, l3, l4, l5, l6, l7, V => if l7 < 0 then (sI K V l0 5 16 l4 fun V1 => sI K V1 l0 5 11 l4 fun V2 => gI K V2 l0 5 7 fun x3 => cV K l0 5 (f_X7_goThrough K P l0 x3 l1 V2) fun x5 V4 => if x5 = 0 then (cV K l0 5 (f_X7_howBack K P l0 V4) fun x7 V6 => if 0 < x7 then (if l2 = ((-1 : Int32)) then (some (l4, V6)) else (cS (f_X7_in K P l2 ((0 : Int32)) (l4 - ((1 : Int32))) V6) fun x9 V8 => if x9 = 0 then (some ((-6 : Int32), V8)) else (gR K P l0 5 15 fun b10 => aI K V8 0 b10 l2 fun x11 => some (x11, V8)))) else (f_X7_spill_182 K P k32 k48 l0 l1 l2 l3 l4 l5 V6)) else (f_X7_spill_182 K P k32 k48 l0 l1 l2 l3 l4 l5 V4)) else (gR K P l0 5 15 fun b12 => gR K P l0 5 1 fun b13 => gI K V l0 5 0 fun x14 => dG x14 (aI K V 0 b13 (l6 - l6 / x14 * x14) fun x15 => sA K V b12 l7 x15 fun V16 => gR K P l0 5 12 fun b17 => gR K P l0 5 15 fun b18 => aI K V16 0 b18 l7 fun x19 => sA K V16 b17 l7 x19 fun V20 => gI K V20 l0 5 0 fun x21 => dG x21 ((f_X7_spill_64 K P k32 k48 n) l0 l1 l2 l3 l4 l5 (l6 / x21) (l7 + (-1 : Int32)) V20)))
def f_X7_spill_48 (K : KT) (P : PT) (k32 : Nat → Int32 → Int32 → Int32 → Int32 → VT → Option (Int32 × VT)) : Nat → Nat → Int32 → Int32 → Int32 → Int32 → Int32 → VT → Option (Int32 × VT)
  | 0, _, _, _, _, _, _, _ => none
  | n + 1, l0, l1, l2, l3, l4, l5, V => if l5 < l3 then (f_X7_spill_64 K P k32 (f_X7_spill_48 K P k32 n) FU l0 l1 l2 l3 l4 l5 l5 (l4 - ((1 : Int32))) V) else (k32 l0 l1 l2 l3 (l4 + (1 : Int32)) V)
def f_X7_spill_32 (K : KT) (P : PT) : Nat → Nat → Int32 → Int32 → Int32 → Int32 → VT → Option (Int32 × VT)
  | 0, _, _, _, _, _, _ => none
  | n + 1, l0, l1, l2, l3, l4, V => if l4 < ((5 : Int32)) then (gI K V l0 5 0 fun x1 => f_X7_spill_48 K P (f_X7_spill_32 K P n) FU l0 l1 l2 (l3 * x1) l4 ((0 : Int32)) V) else (some ((-6 : Int32), V))
def f_X7_spill (K : KT) (P : PT) (l0 : Nat) (l1 : Int32) (l2 : Int32) (V : VT) : Option (Int32 × VT) :=
  gI K V l0 5 7 fun x1 => cS (f_X7_in K P l1 ((0 : Int32)) (x1 - ((1 : Int32))) V) fun x3 V2 => if x3 = 0 then (some ((-2 : Int32), V2)) else (cV K l0 5 (f_X7_isRow K P l0 V2) fun x5 V4 => if x5 = 0 then (some ((-3 : Int32), V4)) else (f_X7_spill_32 K P FU l0 l1 l2 ((1 : Int32)) ((1 : Int32)) V4))
set_option maxRecDepth 20000 in
theorem w_X7_spill_182 {g : GT} {K : KT} {P : PT} {res : Int32 × VT} (h : OK g RX7 cX7_spill 8 (some .int)) {k32 : Nat → Int32 → Int32 → Int32 → Int32 → VT → Option (Int32 × VT)} {k48 : Nat → Int32 → Int32 → Int32 → Int32 → Int32 → VT → Option (Int32 × VT)} (hk32 : ∀ (l0 : Nat) (l1 : Int32) (l2 : Int32) (l3 : Int32) (l4 : Int32) (V : VT), k32 l0 l1 l2 l3 l4 V = some res → J g rm_X7_spill (QF g (some (.int res.1)) K P res.2 0 0) 8 K P V 0 0 32 [some (.ref l0), some (.int l1), some (.int l2), some (.int l3), some (.int l4), none, none, none] []) (hk48 : ∀ (l0 : Nat) (l1 : Int32) (l2 : Int32) (l3 : Int32) (l4 : Int32) (l5 : Int32) (V : VT), k48 l0 l1 l2 l3 l4 l5 V = some res → J g rm_X7_spill (QF g (some (.int res.1)) K P res.2 0 0) 8 K P V 0 0 48 [some (.ref l0), some (.int l1), some (.int l2), some (.int l3), some (.int l4), some (.int l5), none, none] []) {l0 : Nat} {l1 : Int32} {l2 : Int32} {l3 : Int32} {l4 : Int32} {l5 : Int32} {V : VT} (hf : f_X7_spill_182 K P k32 k48 l0 l1 l2 l3 l4 l5 V = some res) : J g rm_X7_spill (QF g (some (.int res.1)) K P res.2 0 0) 8 K P V 0 0 182 [some (.ref l0), some (.int l1), some (.int l2), some (.int l3), some (.int l4), some (.int l5), none, none] [] := by
  rw [f_X7_spill_182] at hf
  refine j_iinc (q := 185) _ [_, _, _, _, _, _, _, _] h dX7_spill_182 rfl (by decide) rfl (kc_1 _) rfl rfl ?_
  refine j_goto 48 h dX7_spill_185 (by decide) ?_
  exact j_sub (lsub_s (lsub_s (lsub_s (lsub_s (lsub_s (lsub_s (lsub_n (lsub_n lsub_0)))))))) (hk48 _ _ _ _ _ _ _ hf)
set_option maxRecDepth 20000 in
theorem w_X7_spill_64 {g : GT} {K : KT} {P : PT} {res : Int32 × VT} (h : OK g RX7 cX7_spill 8 (some .int)) {k32 : Nat → Int32 → Int32 → Int32 → Int32 → VT → Option (Int32 × VT)} {k48 : Nat → Int32 → Int32 → Int32 → Int32 → Int32 → VT → Option (Int32 × VT)} (hk32 : ∀ (l0 : Nat) (l1 : Int32) (l2 : Int32) (l3 : Int32) (l4 : Int32) (V : VT), k32 l0 l1 l2 l3 l4 V = some res → J g rm_X7_spill (QF g (some (.int res.1)) K P res.2 0 0) 8 K P V 0 0 32 [some (.ref l0), some (.int l1), some (.int l2), some (.int l3), some (.int l4), none, none, none] []) (hk48 : ∀ (l0 : Nat) (l1 : Int32) (l2 : Int32) (l3 : Int32) (l4 : Int32) (l5 : Int32) (V : VT), k48 l0 l1 l2 l3 l4 l5 V = some res → J g rm_X7_spill (QF g (some (.int res.1)) K P res.2 0 0) 8 K P V 0 0 48 [some (.ref l0), some (.int l1), some (.int l2), some (.int l3), some (.int l4), some (.int l5), none, none] []) : ∀ (n : Nat) (l0 : Nat) (l1 : Int32) (l2 : Int32) (l3 : Int32) (l4 : Int32) (l5 : Int32) (l6 : Int32) (l7 : Int32) (V : VT), f_X7_spill_64 K P k32 k48 n l0 l1 l2 l3 l4 l5 l6 l7 V = some res → J g rm_X7_spill (QF g (some (.int res.1)) K P res.2 0 0) 8 K P V 0 0 64 [some (.ref l0), some (.int l1), some (.int l2), some (.int l3), some (.int l4), some (.int l5), some (.int l6), some (.int l7)] [] := by
  intro n
  induction n with
  | zero => intro l0 l1 l2 l3 l4 l5 l6 l7 V hf; rw [f_X7_spill_64] at hf; cases hf
  | succ n ih =>
    intro l0 l1 l2 l3 l4 l5 l6 l7 V hf
    rw [f_X7_spill_64] at hf
    refine j_iload (q := 66) h dX7_spill_64 rfl rfl ?_
    refine j_if_lt (q := 69) 117 h dX7_spill_66 (by decide) rfl hf (fun hf => ?_) (fun hf => ?_)
    · refine j_aload_n (q := 118) h dX7_spill_117 rfl rfl ?_
      refine j_iload (q := 120) h dX7_spill_118 rfl rfl ?_
      refine j_sI (q := 123) h tyX7 tyX7_ok nmX7 uin_X7 rfl rfl (by decide) rfl rfl (by decide +kernel) fl_X7_139 dX7_spill_120 rfl hf (fun hf => ?_)
      refine j_aload_n (q := 124) h dX7_spill_123 rfl rfl ?_
      refine j_iload (q := 126) h dX7_spill_124 rfl rfl ?_
      refine j_sI (q := 129) h tyX7 tyX7_ok nmX7 uin_X7 rfl rfl (by decide) rfl rfl (by decide +kernel) fl_X7_94 dX7_spill_126 rfl hf (fun hf => ?_)
      refine j_aload_n (q := 130) h dX7_spill_129 rfl rfl ?_
      refine j_aload_n (q := 131) h dX7_spill_130 rfl rfl ?_
      refine j_gI (q := 134) h uin_X7 rfl rfl (by decide) rfl fl_X7_84 dX7_spill_131 rfl hf (fun hf => ?_)
      refine j_iload_n (q := 135) h dX7_spill_134 rfl rfl ?_
      refine j_cVi (q := 138) (As := [.int _, .int _]) h rfl hf (fun _ hx => ct_X7_goThrough _ _ _ hx) ml_X7_114 vw_X7_goThrough rf_X7_spill_X7_goThrough ⟨Nat.zero_le _, Nat.zero_le _⟩ (Nat.le_of_ble_eq_true rfl) dX7_spill_135 rfl (fun _ _ hf => ?_)
      refine j_if_ne (q := 141) 182 h dX7_spill_138 (by decide) rfl hf (fun hf => ?_) (fun hf => ?_)
      · exact j_sub (lsub_s (lsub_s (lsub_s (lsub_s (lsub_s (lsub_s (lsub_n (lsub_n lsub_0)))))))) (w_X7_spill_182 h hk32 hk48 hf)
      · refine j_aload_n (q := 142) h dX7_spill_141 rfl rfl ?_
        refine j_cVi (q := 145) (As := []) h rfl hf (fun _ hx => ct_X7_howBack _ _ _ hx) ml_X7_145 vw_X7_howBack rf_X7_spill_X7_howBack ⟨Nat.zero_le _, Nat.zero_le _⟩ (Nat.le_of_ble_eq_true rfl) dX7_spill_142 rfl (fun _ _ hf => ?_)
        refine j_if_le (q := 148) 182 h dX7_spill_145 (by decide) rfl hf (fun hf => ?_) (fun hf => ?_)
        · exact j_sub (lsub_s (lsub_s (lsub_s (lsub_s (lsub_s (lsub_s (lsub_n (lsub_n lsub_0)))))))) (w_X7_spill_182 h hk32 hk48 hf)
        · refine j_iload_n (q := 149) h dX7_spill_148 rfl rfl ?_
          refine j_iconst (q := 150) (-1) h dX7_spill_149 ki_m1 rfl ?_
          refine j_icmp_ne (q := 153) 158 h dX7_spill_150 (by decide) rfl hf (fun hf => ?_) (fun hf => ?_)
          · refine j_iload_n (q := 159) h dX7_spill_158 rfl rfl ?_
            refine j_iconst (q := 160) (0) h dX7_spill_159 ki_0 rfl ?_
            refine j_iload (q := 162) h dX7_spill_160 rfl rfl ?_
            refine j_iconst (q := 163) (1) h dX7_spill_162 ki_1 rfl ?_
            refine j_isub (q := 164) h dX7_spill_163 rfl ?_
            refine j_cSi (q := 167) (As := [.int _, .int _, .int _]) h rfl hf (fun _ hx => ct_X7_in _ _ _ hx) ml_X7_63 sw_X7_in rf_X7_spill_X7_in ⟨Nat.zero_le _, Nat.zero_le _⟩ (Nat.le_of_ble_eq_true rfl) dX7_spill_164 rfl (fun _ _ hf => ?_)
            refine j_if_eq (q := 170) 179 h dX7_spill_167 (by decide) rfl hf (fun hf => ?_) (fun hf => ?_)
            · refine j_bipush (q := 181) (-6) h dX7_spill_179 kb_m6 rfl ?_
              exact j_iret h dX7_spill_181 hf
            · refine j_aload_n (q := 171) h dX7_spill_170 rfl rfl ?_
              refine j_gR (q := 174) h uin_X7 rfl rfl (by decide) rfl fl_X7_44 dX7_spill_171 rfl hf (fun b10 hf => ?_)
              refine j_iload_n (q := 175) h dX7_spill_174 rfl rfl ?_
              refine j_iald (q := 176) h dX7_spill_175 rfl hf (fun hf => ?_)
              refine j_goto 181 h dX7_spill_176 (by decide) ?_
              exact j_iret h dX7_spill_181 hf
          · refine j_iload (q := 155) h dX7_spill_153 rfl rfl ?_
            refine j_goto 181 h dX7_spill_155 (by decide) ?_
            exact j_iret h dX7_spill_181 hf
    · refine j_aload_n (q := 70) h dX7_spill_69 rfl rfl ?_
      refine j_gR (q := 73) h uin_X7 rfl rfl (by decide) rfl fl_X7_44 dX7_spill_70 rfl hf (fun b12 hf => ?_)
      refine j_iload (q := 75) h dX7_spill_73 rfl rfl ?_
      refine j_aload_n (q := 76) h dX7_spill_75 rfl rfl ?_
      refine j_gR (q := 79) h uin_X7 rfl rfl (by decide) rfl fl_X7_7 dX7_spill_76 rfl hf (fun b13 hf => ?_)
      refine j_iload (q := 81) h dX7_spill_79 rfl rfl ?_
      refine j_aload_n (q := 82) h dX7_spill_81 rfl rfl ?_
      refine j_gI (q := 85) h uin_X7 rfl rfl (by decide) rfl fl_X7_67 dX7_spill_82 rfl hf (fun hf => ?_)
      refine j_irem (q := 86) h dX7_spill_85 rfl hf (fun hf => ?_)
      refine j_iald (q := 87) h dX7_spill_86 rfl hf (fun hf => ?_)
      refine j_iast (q := 88) h dX7_spill_87 rfl hf (fun hf => ?_)
      refine j_aload_n (q := 89) h dX7_spill_88 rfl rfl ?_
      refine j_gR (q := 92) h uin_X7 rfl rfl (by decide) rfl fl_X7_38 dX7_spill_89 rfl hf (fun b17 hf => ?_)
      refine j_iload (q := 94) h dX7_spill_92 rfl rfl ?_
      refine j_aload_n (q := 95) h dX7_spill_94 rfl rfl ?_
      refine j_gR (q := 98) h uin_X7 rfl rfl (by decide) rfl fl_X7_44 dX7_spill_95 rfl hf (fun b18 hf => ?_)
      refine j_iload (q := 100) h dX7_spill_98 rfl rfl ?_
      refine j_iald (q := 101) h dX7_spill_100 rfl hf (fun hf => ?_)
      refine j_iast (q := 102) h dX7_spill_101 rfl hf (fun hf => ?_)
      refine j_iload (q := 104) h dX7_spill_102 rfl rfl ?_
      refine j_aload_n (q := 105) h dX7_spill_104 rfl rfl ?_
      refine j_gI (q := 108) h uin_X7 rfl rfl (by decide) rfl fl_X7_67 dX7_spill_105 rfl hf (fun hf => ?_)
      refine j_idiv (q := 109) h dX7_spill_108 rfl hf (fun hf => ?_)
      refine j_istore (q := 111) [_, _, _, _, _, _, _, _] h dX7_spill_109 rfl (by decide) rfl rfl ?_
      refine j_iinc (q := 114) _ [_, _, _, _, _, _, _, _] h dX7_spill_111 rfl (by decide) rfl (kc_m1 _) rfl rfl ?_
      refine j_goto 64 h dX7_spill_114 (by decide) ?_
      exact j_sub (lsub_s (lsub_s (lsub_s (lsub_s (lsub_s (lsub_s (lsub_s (lsub_s lsub_0)))))))) (ih _ _ _ _ _ _ _ _ _ hf)
set_option maxRecDepth 20000 in
theorem w_X7_spill_48 {g : GT} {K : KT} {P : PT} {res : Int32 × VT} (h : OK g RX7 cX7_spill 8 (some .int)) {k32 : Nat → Int32 → Int32 → Int32 → Int32 → VT → Option (Int32 × VT)} (hk32 : ∀ (l0 : Nat) (l1 : Int32) (l2 : Int32) (l3 : Int32) (l4 : Int32) (V : VT), k32 l0 l1 l2 l3 l4 V = some res → J g rm_X7_spill (QF g (some (.int res.1)) K P res.2 0 0) 8 K P V 0 0 32 [some (.ref l0), some (.int l1), some (.int l2), some (.int l3), some (.int l4), none, none, none] []) : ∀ (n : Nat) (l0 : Nat) (l1 : Int32) (l2 : Int32) (l3 : Int32) (l4 : Int32) (l5 : Int32) (V : VT), f_X7_spill_48 K P k32 n l0 l1 l2 l3 l4 l5 V = some res → J g rm_X7_spill (QF g (some (.int res.1)) K P res.2 0 0) 8 K P V 0 0 48 [some (.ref l0), some (.int l1), some (.int l2), some (.int l3), some (.int l4), some (.int l5), none, none] [] := by
  intro n
  induction n with
  | zero => intro l0 l1 l2 l3 l4 l5 V hf; rw [f_X7_spill_48] at hf; cases hf
  | succ n ih =>
    intro l0 l1 l2 l3 l4 l5 V hf
    rw [f_X7_spill_48] at hf
    refine j_iload (q := 50) h dX7_spill_48 rfl rfl ?_
    refine j_iload_n (q := 51) h dX7_spill_50 rfl rfl ?_
    refine j_icmp_ge (q := 54) 188 h dX7_spill_51 (by decide) rfl hf (fun hf => ?_) (fun hf => ?_)
    · refine j_iinc (q := 191) _ [_, _, _, _, _, _, _, _] h dX7_spill_188 rfl (by decide) rfl (kc_1 _) rfl rfl ?_
      refine j_goto 32 h dX7_spill_191 (by decide) ?_
      exact j_sub (lsub_s (lsub_s (lsub_s (lsub_s (lsub_s (lsub_n (lsub_n (lsub_n lsub_0)))))))) (hk32 _ _ _ _ _ _ hf)
    · refine j_iload (q := 56) h dX7_spill_54 rfl rfl ?_
      refine j_istore (q := 58) [_, _, _, _, _, _, _, _] h dX7_spill_56 rfl (by decide) rfl rfl ?_
      refine j_iload (q := 60) h dX7_spill_58 rfl rfl ?_
      refine j_iconst (q := 61) (1) h dX7_spill_60 ki_1 rfl ?_
      refine j_isub (q := 62) h dX7_spill_61 rfl ?_
      refine j_istore (q := 64) [_, _, _, _, _, _, _, _] h dX7_spill_62 rfl (by decide) rfl rfl ?_
      exact j_sub (lsub_s (lsub_s (lsub_s (lsub_s (lsub_s (lsub_s (lsub_s (lsub_s lsub_0)))))))) (w_X7_spill_64 h hk32 ih FU _ _ _ _ _ _ _ _ _ hf)
set_option maxRecDepth 20000 in
theorem w_X7_spill_32 {g : GT} {K : KT} {P : PT} {res : Int32 × VT} (h : OK g RX7 cX7_spill 8 (some .int)) : ∀ (n : Nat) (l0 : Nat) (l1 : Int32) (l2 : Int32) (l3 : Int32) (l4 : Int32) (V : VT), f_X7_spill_32 K P n l0 l1 l2 l3 l4 V = some res → J g rm_X7_spill (QF g (some (.int res.1)) K P res.2 0 0) 8 K P V 0 0 32 [some (.ref l0), some (.int l1), some (.int l2), some (.int l3), some (.int l4), none, none, none] [] := by
  intro n
  induction n with
  | zero => intro l0 l1 l2 l3 l4 V hf; rw [f_X7_spill_32] at hf; cases hf
  | succ n ih =>
    intro l0 l1 l2 l3 l4 V hf
    rw [f_X7_spill_32] at hf
    refine j_iload (q := 34) h dX7_spill_32 rfl rfl ?_
    refine j_iconst (q := 35) (5) h dX7_spill_34 ki_5 rfl ?_
    refine j_icmp_ge (q := 38) 194 h dX7_spill_35 (by decide) rfl hf (fun hf => ?_) (fun hf => ?_)
    · refine j_bipush (q := 196) (-6) h dX7_spill_194 kb_m6 rfl ?_
      exact j_iret h dX7_spill_196 hf
    · refine j_iload_n (q := 39) h dX7_spill_38 rfl rfl ?_
      refine j_aload_n (q := 40) h dX7_spill_39 rfl rfl ?_
      refine j_gI (q := 43) h uin_X7 rfl rfl (by decide) rfl fl_X7_67 dX7_spill_40 rfl hf (fun hf => ?_)
      refine j_imul (q := 44) h dX7_spill_43 rfl ?_
      refine j_istore_n (q := 45) [_, _, _, _, _, _, _, _] h dX7_spill_44 rfl (by decide) rfl rfl ?_
      refine j_iconst (q := 46) (0) h dX7_spill_45 ki_0 rfl ?_
      refine j_istore (q := 48) [_, _, _, _, _, _, _, _] h dX7_spill_46 rfl (by decide) rfl rfl ?_
      exact j_sub (lsub_s (lsub_s (lsub_s (lsub_s (lsub_s (lsub_s (lsub_n (lsub_n lsub_0)))))))) (w_X7_spill_48 h ih FU _ _ _ _ _ _ _ hf)
set_option maxRecDepth 20000 in
theorem w_X7_spill_0 {g : GT} {K : KT} {P : PT} {res : Int32 × VT} (h : OK g RX7 cX7_spill 8 (some .int)) {l0 : Nat} {l1 : Int32} {l2 : Int32} {V : VT} (hf : f_X7_spill K P l0 l1 l2 V = some res) : J g rm_X7_spill (QF g (some (.int res.1)) K P res.2 0 0) 8 K P V 0 0 0 [some (.ref l0), some (.int l1), some (.int l2), none, none, none, none, none] [] := by
  rw [f_X7_spill] at hf
  refine j_iload_n (q := 1) h dX7_spill_0 rfl rfl ?_
  refine j_iconst (q := 2) (0) h dX7_spill_1 ki_0 rfl ?_
  refine j_aload_n (q := 3) h dX7_spill_2 rfl rfl ?_
  refine j_gI (q := 6) h uin_X7 rfl rfl (by decide) rfl fl_X7_84 dX7_spill_3 rfl hf (fun hf => ?_)
  refine j_iconst (q := 7) (1) h dX7_spill_6 ki_1 rfl ?_
  refine j_isub (q := 8) h dX7_spill_7 rfl ?_
  refine j_cSi (q := 11) (As := [.int _, .int _, .int _]) h rfl hf (fun _ hx => ct_X7_in _ _ _ hx) ml_X7_63 sw_X7_in rf_X7_spill_X7_in ⟨Nat.zero_le _, Nat.zero_le _⟩ (Nat.le_of_ble_eq_true rfl) dX7_spill_8 rfl (fun _ _ hf => ?_)
  refine j_if_ne (q := 14) 17 h dX7_spill_11 (by decide) rfl hf (fun hf => ?_) (fun hf => ?_)
  · refine j_aload_n (q := 18) h dX7_spill_17 rfl rfl ?_
    refine j_cVi (q := 21) (As := []) h rfl hf (fun _ hx => ct_X7_isRow _ _ _ hx) ml_X7_148 vw_X7_isRow rf_X7_spill_X7_isRow ⟨Nat.zero_le _, Nat.zero_le _⟩ (Nat.le_of_ble_eq_true rfl) dX7_spill_18 rfl (fun _ _ hf => ?_)
    refine j_if_ne (q := 24) 27 h dX7_spill_21 (by decide) rfl hf (fun hf => ?_) (fun hf => ?_)
    · refine j_iconst (q := 28) (1) h dX7_spill_27 ki_1 rfl ?_
      refine j_istore_n (q := 29) [_, _, _, _, _, _, _, _] h dX7_spill_28 rfl (by decide) rfl rfl ?_
      refine j_iconst (q := 30) (1) h dX7_spill_29 ki_1 rfl ?_
      refine j_istore (q := 32) [_, _, _, _, _, _, _, _] h dX7_spill_30 rfl (by decide) rfl rfl ?_
      exact j_sub (lsub_s (lsub_s (lsub_s (lsub_s (lsub_s (lsub_n (lsub_n (lsub_n lsub_0)))))))) (w_X7_spill_32 h FU _ _ _ _ _ _ hf)
    · refine j_bipush (q := 26) (-3) h dX7_spill_24 kb_m3 rfl ?_
      exact j_iret h dX7_spill_26 hf
  · refine j_bipush (q := 16) (-2) h dX7_spill_14 kb_m2 rfl ?_
    exact j_iret h dX7_spill_16 hf
theorem ct_X7_spill (l : Launch) (D : va_G) (T : TT) {K : KT} {P : PT} {l0 : Nat} {l1 : Int32} {l2 : Int32} {V : VT} {res : Int32 × VT} (hf : f_X7_spill K P l0 l1 l2 V = some res) : CT l D T yX7_spill cX7_spill 8 (some .int) rm_X7_spill K P V [.ref l0, .int l1, .int l2] (some (.int res.1)) res.2 :=
  fun _ => CT_of pn_X7 (cat_a (cat_i (cat_i cat_0))) (Nat.le_of_ble_eq_true rfl) [some (.ref l0), some (.int l1), some (.int l2), none, none, none, none, none] rfl (fun _ _ _ h => w_X7_spill_0 h hf)
/-! QuotedLayersModel.twice(I)I -/
def rm_X7_twice : Room := { frames := 6, cells := 0, slots := 0, locals := 136 }
theorem rf_X7_twice_X7_howBack : RF rm_X7_howBack rm_X7_twice 3 := ⟨⟨by decide, by decide⟩, rfl, rfl⟩
theorem rf_X7_twice_X7_in : RF rm_X7_in rm_X7_twice 3 := ⟨⟨by decide, by decide⟩, rfl, rfl⟩
theorem rf_X7_twice_X7_keepText : RF rm_X7_keepText rm_X7_twice 2 := ⟨⟨by decide, by decide⟩, rfl, rfl⟩
theorem rf_X7_twice_X7_put : RF rm_X7_put rm_X7_twice 7 := ⟨⟨by decide, by decide⟩, rfl, rfl⟩
def f_X7_twice_67 (K : KT) (P : PT) (k23 : Nat → Int32 → Int32 → VT → Option (Int32 × VT)) (l0 : Nat) (l1 : Int32) (l2 : Int32) (s0 : Int32) (V : VT) : Option (Int32 × VT) :=
  if s0 < 0 then (some (s0, V)) else (k23 l0 l1 (l2 + (1 : Int32)) V)
def f_X7_twice_66 (K : KT) (P : PT) (k23 : Nat → Int32 → Int32 → VT → Option (Int32 × VT)) (l0 : Nat) (l1 : Int32) (l2 : Int32) (l3 : Int32) (V : VT) : Option (Int32 × VT) :=
  f_X7_twice_67 K P k23 l0 l1 l2 l3 V
def f_X7_twice_23 (K : KT) (P : PT) : Nat → Nat → Int32 → Int32 → VT → Option (Int32 × VT)
  | 0, _, _, _, _ => none
  | n + 1, l0, l1, l2, V => gI K V l0 5 7 fun x1 => if l2 < x1 then (gR K P l0 5 8 fun b4 => aI K V 0 b4 l2 fun x5 => cV K l0 5 (f_X7_put K P l0 x5 ((0 : Int32)) V) fun x7 V6 => if x7 = 0 then (if l2 = l1 then (gR K P l0 5 8 fun b8 => aI K V6 0 b8 l2 fun x9 => cV K l0 5 (f_X7_put K P l0 x9 ((0 : Int32)) V6) fun x11 V10 => f_X7_twice_67 K P (f_X7_twice_23 K P n) l0 l1 l2 x11 V10) else (f_X7_twice_66 K P (f_X7_twice_23 K P n) l0 l1 l2 x7 V6)) else (f_X7_twice_66 K P (f_X7_twice_23 K P n) l0 l1 l2 x7 V6)) else (cV K l0 5 (f_X7_howBack K P l0 V) fun x3 V2 => some (x3, V2))
def f_X7_twice (K : KT) (P : PT) (l0 : Nat) (l1 : Int32) (V : VT) : Option (Int32 × VT) :=
  gI K V l0 5 7 fun x1 => cS (f_X7_in K P l1 ((0 : Int32)) (x1 - ((1 : Int32))) V) fun x3 V2 => if x3 = 0 then (some ((-2 : Int32), V2)) else (cV K l0 5 (f_X7_keepText K P l0 V2) fun u5 V4 => f_X7_twice_23 K P FU l0 l1 ((0 : Int32)) V4)
set_option maxRecDepth 20000 in
theorem w_X7_twice_67 {g : GT} {K : KT} {P : PT} {res : Int32 × VT} (h : OK g RX7 cX7_twice 4 (some .int)) {k23 : Nat → Int32 → Int32 → VT → Option (Int32 × VT)} (hk23 : ∀ (l0 : Nat) (l1 : Int32) (l2 : Int32) (V : VT), k23 l0 l1 l2 V = some res → J g rm_X7_twice (QF g (some (.int res.1)) K P res.2 0 0) 4 K P V 0 0 23 [some (.ref l0), some (.int l1), some (.int l2), none] []) {l0 : Nat} {l1 : Int32} {l2 : Int32} {s0 : Int32} {V : VT} (hf : f_X7_twice_67 K P k23 l0 l1 l2 s0 V = some res) : J g rm_X7_twice (QF g (some (.int res.1)) K P res.2 0 0) 4 K P V 0 0 67 [some (.ref l0), some (.int l1), some (.int l2), none] [.int s0] := by
  rw [f_X7_twice_67] at hf
  refine j_istore_n (q := 68) [_, _, _, _] h dX7_twice_67 rfl (by decide) rfl rfl ?_
  refine j_iload_n (q := 69) h dX7_twice_68 rfl rfl ?_
  refine j_if_ge (q := 72) 74 h dX7_twice_69 (by decide) rfl hf (fun hf => ?_) (fun hf => ?_)
  · refine j_iinc (q := 77) _ [_, _, _, _] h dX7_twice_74 rfl (by decide) rfl (kc_1 _) rfl rfl ?_
    refine j_goto 23 h dX7_twice_77 (by decide) ?_
    exact j_sub (lsub_s (lsub_s (lsub_s (lsub_n lsub_0)))) (hk23 _ _ _ _ hf)
  · refine j_iload_n (q := 73) h dX7_twice_72 rfl rfl ?_
    exact j_iret h dX7_twice_73 hf
set_option maxRecDepth 20000 in
theorem w_X7_twice_66 {g : GT} {K : KT} {P : PT} {res : Int32 × VT} (h : OK g RX7 cX7_twice 4 (some .int)) {k23 : Nat → Int32 → Int32 → VT → Option (Int32 × VT)} (hk23 : ∀ (l0 : Nat) (l1 : Int32) (l2 : Int32) (V : VT), k23 l0 l1 l2 V = some res → J g rm_X7_twice (QF g (some (.int res.1)) K P res.2 0 0) 4 K P V 0 0 23 [some (.ref l0), some (.int l1), some (.int l2), none] []) {l0 : Nat} {l1 : Int32} {l2 : Int32} {l3 : Int32} {V : VT} (hf : f_X7_twice_66 K P k23 l0 l1 l2 l3 V = some res) : J g rm_X7_twice (QF g (some (.int res.1)) K P res.2 0 0) 4 K P V 0 0 66 [some (.ref l0), some (.int l1), some (.int l2), some (.int l3)] [] := by
  rw [f_X7_twice_66] at hf
  refine j_iload_n (q := 67) h dX7_twice_66 rfl rfl ?_
  exact j_sub (lsub_s (lsub_s (lsub_s (lsub_n lsub_0)))) (w_X7_twice_67 h hk23 hf)
set_option maxRecDepth 20000 in
theorem w_X7_twice_23 {g : GT} {K : KT} {P : PT} {res : Int32 × VT} (h : OK g RX7 cX7_twice 4 (some .int)) : ∀ (n : Nat) (l0 : Nat) (l1 : Int32) (l2 : Int32) (V : VT), f_X7_twice_23 K P n l0 l1 l2 V = some res → J g rm_X7_twice (QF g (some (.int res.1)) K P res.2 0 0) 4 K P V 0 0 23 [some (.ref l0), some (.int l1), some (.int l2), none] [] := by
  intro n
  induction n with
  | zero => intro l0 l1 l2 V hf; rw [f_X7_twice_23] at hf; cases hf
  | succ n ih =>
    intro l0 l1 l2 V hf
    rw [f_X7_twice_23] at hf
    refine j_iload_n (q := 24) h dX7_twice_23 rfl rfl ?_
    refine j_aload_n (q := 25) h dX7_twice_24 rfl rfl ?_
    refine j_gI (q := 28) h uin_X7 rfl rfl (by decide) rfl fl_X7_84 dX7_twice_25 rfl hf (fun hf => ?_)
    refine j_icmp_ge (q := 31) 80 h dX7_twice_28 (by decide) rfl hf (fun hf => ?_) (fun hf => ?_)
    · refine j_aload_n (q := 81) h dX7_twice_80 rfl rfl ?_
      refine j_cVi (q := 84) (As := []) h rfl hf (fun _ hx => ct_X7_howBack _ _ _ hx) ml_X7_145 vw_X7_howBack rf_X7_twice_X7_howBack ⟨Nat.zero_le _, Nat.zero_le _⟩ (Nat.le_of_ble_eq_true rfl) dX7_twice_81 rfl (fun _ _ hf => ?_)
      exact j_iret h dX7_twice_84 hf
    · refine j_aload_n (q := 32) h dX7_twice_31 rfl rfl ?_
      refine j_aload_n (q := 33) h dX7_twice_32 rfl rfl ?_
      refine j_gR (q := 36) h uin_X7 rfl rfl (by decide) rfl fl_X7_28 dX7_twice_33 rfl hf (fun b4 hf => ?_)
      refine j_iload_n (q := 37) h dX7_twice_36 rfl rfl ?_
      refine j_iald (q := 38) h dX7_twice_37 rfl hf (fun hf => ?_)
      refine j_iconst (q := 39) (0) h dX7_twice_38 ki_0 rfl ?_
      refine j_cVi (q := 42) (As := [.int _, .int _]) h rfl hf (fun _ hx => ct_X7_put _ _ _ hx) ml_X7_107 vw_X7_put rf_X7_twice_X7_put ⟨Nat.zero_le _, Nat.zero_le _⟩ (Nat.le_of_ble_eq_true rfl) dX7_twice_39 rfl (fun _ _ hf => ?_)
      refine j_istore_n (q := 43) [_, _, _, _] h dX7_twice_42 rfl (by decide) rfl rfl ?_
      refine j_iload_n (q := 44) h dX7_twice_43 rfl rfl ?_
      refine j_if_ne (q := 47) 66 h dX7_twice_44 (by decide) rfl hf (fun hf => ?_) (fun hf => ?_)
      · exact j_sub (lsub_s (lsub_s (lsub_s (lsub_s lsub_0)))) (w_X7_twice_66 h ih hf)
      · refine j_iload_n (q := 48) h dX7_twice_47 rfl rfl ?_
        refine j_iload_n (q := 49) h dX7_twice_48 rfl rfl ?_
        refine j_icmp_ne (q := 52) 66 h dX7_twice_49 (by decide) rfl hf (fun hf => ?_) (fun hf => ?_)
        · exact j_sub (lsub_s (lsub_s (lsub_s (lsub_s lsub_0)))) (w_X7_twice_66 h ih hf)
        · refine j_aload_n (q := 53) h dX7_twice_52 rfl rfl ?_
          refine j_aload_n (q := 54) h dX7_twice_53 rfl rfl ?_
          refine j_gR (q := 57) h uin_X7 rfl rfl (by decide) rfl fl_X7_28 dX7_twice_54 rfl hf (fun b8 hf => ?_)
          refine j_iload_n (q := 58) h dX7_twice_57 rfl rfl ?_
          refine j_iald (q := 59) h dX7_twice_58 rfl hf (fun hf => ?_)
          refine j_iconst (q := 60) (0) h dX7_twice_59 ki_0 rfl ?_
          refine j_cVi (q := 63) (As := [.int _, .int _]) h rfl hf (fun _ hx => ct_X7_put _ _ _ hx) ml_X7_107 vw_X7_put rf_X7_twice_X7_put ⟨Nat.zero_le _, Nat.zero_le _⟩ (Nat.le_of_ble_eq_true rfl) dX7_twice_60 rfl (fun _ _ hf => ?_)
          refine j_goto 67 h dX7_twice_63 (by decide) ?_
          exact j_sub (lsub_s (lsub_s (lsub_s (lsub_n lsub_0)))) (w_X7_twice_67 h ih hf)
set_option maxRecDepth 20000 in
theorem w_X7_twice_0 {g : GT} {K : KT} {P : PT} {res : Int32 × VT} (h : OK g RX7 cX7_twice 4 (some .int)) {l0 : Nat} {l1 : Int32} {V : VT} (hf : f_X7_twice K P l0 l1 V = some res) : J g rm_X7_twice (QF g (some (.int res.1)) K P res.2 0 0) 4 K P V 0 0 0 [some (.ref l0), some (.int l1), none, none] [] := by
  rw [f_X7_twice] at hf
  refine j_iload_n (q := 1) h dX7_twice_0 rfl rfl ?_
  refine j_iconst (q := 2) (0) h dX7_twice_1 ki_0 rfl ?_
  refine j_aload_n (q := 3) h dX7_twice_2 rfl rfl ?_
  refine j_gI (q := 6) h uin_X7 rfl rfl (by decide) rfl fl_X7_84 dX7_twice_3 rfl hf (fun hf => ?_)
  refine j_iconst (q := 7) (1) h dX7_twice_6 ki_1 rfl ?_
  refine j_isub (q := 8) h dX7_twice_7 rfl ?_
  refine j_cSi (q := 11) (As := [.int _, .int _, .int _]) h rfl hf (fun _ hx => ct_X7_in _ _ _ hx) ml_X7_63 sw_X7_in rf_X7_twice_X7_in ⟨Nat.zero_le _, Nat.zero_le _⟩ (Nat.le_of_ble_eq_true rfl) dX7_twice_8 rfl (fun _ _ hf => ?_)
  refine j_if_ne (q := 14) 17 h dX7_twice_11 (by decide) rfl hf (fun hf => ?_) (fun hf => ?_)
  · refine j_aload_n (q := 18) h dX7_twice_17 rfl rfl ?_
    refine j_cVv (q := 21) (As := []) h rfl hf (fun _ hx => ct_X7_keepText _ _ _ hx) ml_X7_142 vw_X7_keepText rf_X7_twice_X7_keepText ⟨Nat.zero_le _, Nat.zero_le _⟩ (Nat.le_of_ble_eq_true rfl) dX7_twice_18 rfl (fun _ _ hf => ?_)
    refine j_iconst (q := 22) (0) h dX7_twice_21 ki_0 rfl ?_
    refine j_istore_n (q := 23) [_, _, _, _] h dX7_twice_22 rfl (by decide) rfl rfl ?_
    exact j_sub (lsub_s (lsub_s (lsub_s (lsub_n lsub_0)))) (w_X7_twice_23 h FU _ _ _ _ hf)
  · refine j_bipush (q := 16) (-2) h dX7_twice_14 kb_m2 rfl ?_
    exact j_iret h dX7_twice_16 hf
theorem ct_X7_twice (l : Launch) (D : va_G) (T : TT) {K : KT} {P : PT} {l0 : Nat} {l1 : Int32} {V : VT} {res : Int32 × VT} (hf : f_X7_twice K P l0 l1 V = some res) : CT l D T yX7_twice cX7_twice 4 (some .int) rm_X7_twice K P V [.ref l0, .int l1] (some (.int res.1)) res.2 :=
  fun _ => CT_of pn_X7 (cat_a (cat_i cat_0)) (Nat.le_of_ble_eq_true rfl) [some (.ref l0), some (.int l1), none, none] rfl (fun _ _ _ h => w_X7_twice_0 h hf)
/-! QuotedLayersModel.isAsAtFirst(I)Z -/
def rm_X7_isAsAtFirst : Room := { frames := 1, cells := 0, slots := 0, locals := 21 }
theorem rf_X7_isAsAtFirst_X7_hasMark : RF rm_X7_hasMark rm_X7_isAsAtFirst 2 := ⟨⟨by decide, by decide⟩, rfl, rfl⟩
def f_X7_isAsAtFirst (K : KT) (P : PT) (l0 : Nat) (l1 : Int32) (V : VT) : Option (Int32 × VT) :=
  cV K l0 5 (f_X7_hasMark K P l0 l1 V) fun x2 V1 => if x2 = 0 then (gR K P l0 5 3 fun b3 => aI K V1 0 b3 l1 fun x4 => if x4 = 0 then (gR K P l0 5 5 fun b5 => aI K V1 0 b5 l1 fun x6 => if x6 = 0 then (rB ((1 : Int32)) V1) else (rB ((0 : Int32)) V1)) else (rB ((0 : Int32)) V1)) else (rB ((0 : Int32)) V1)
set_option maxRecDepth 20000 in
theorem w_X7_isAsAtFirst_0 {g : GT} {K : KT} {P : PT} {res : Int32 × VT} (h : OK g RX7 cX7_isAsAtFirst 2 (some .boolean)) {l0 : Nat} {l1 : Int32} {V : VT} (hf : f_X7_isAsAtFirst K P l0 l1 V = some res) : J g rm_X7_isAsAtFirst (QF g (some (.int res.1)) K P res.2 0 0) 2 K P V 0 0 0 [some (.ref l0), some (.int l1)] [] := by
  rw [f_X7_isAsAtFirst] at hf
  refine j_aload_n (q := 1) h dX7_isAsAtFirst_0 rfl rfl ?_
  refine j_iload_n (q := 2) h dX7_isAsAtFirst_1 rfl rfl ?_
  refine j_cVi (q := 5) (As := [.int _]) h rfl hf (fun _ hx => ct_X7_hasMark _ _ _ hx) ml_X7_87 vw_X7_hasMark rf_X7_isAsAtFirst_X7_hasMark ⟨Nat.zero_le _, Nat.zero_le _⟩ (Nat.le_of_ble_eq_true rfl) dX7_isAsAtFirst_2 rfl (fun _ _ hf => ?_)
  refine j_if_ne (q := 8) 30 h dX7_isAsAtFirst_5 (by decide) rfl hf (fun hf => ?_) (fun hf => ?_)
  · refine j_iconst (q := 31) (0) h dX7_isAsAtFirst_30 ki_0 rfl ?_
    exact j_zret h dX7_isAsAtFirst_31 hf
  · refine j_aload_n (q := 9) h dX7_isAsAtFirst_8 rfl rfl ?_
    refine j_gR (q := 12) h uin_X7 rfl rfl (by decide) rfl fl_X7_16 dX7_isAsAtFirst_9 rfl hf (fun b3 hf => ?_)
    refine j_iload_n (q := 13) h dX7_isAsAtFirst_12 rfl rfl ?_
    refine j_iald (q := 14) h dX7_isAsAtFirst_13 rfl hf (fun hf => ?_)
    refine j_if_ne (q := 17) 30 h dX7_isAsAtFirst_14 (by decide) rfl hf (fun hf => ?_) (fun hf => ?_)
    · refine j_iconst (q := 31) (0) h dX7_isAsAtFirst_30 ki_0 rfl ?_
      exact j_zret h dX7_isAsAtFirst_31 hf
    · refine j_aload_n (q := 18) h dX7_isAsAtFirst_17 rfl rfl ?_
      refine j_gR (q := 21) h uin_X7 rfl rfl (by decide) rfl fl_X7_22 dX7_isAsAtFirst_18 rfl hf (fun b5 hf => ?_)
      refine j_iload_n (q := 22) h dX7_isAsAtFirst_21 rfl rfl ?_
      refine j_iald (q := 23) h dX7_isAsAtFirst_22 rfl hf (fun hf => ?_)
      refine j_if_ne (q := 26) 30 h dX7_isAsAtFirst_23 (by decide) rfl hf (fun hf => ?_) (fun hf => ?_)
      · refine j_iconst (q := 31) (0) h dX7_isAsAtFirst_30 ki_0 rfl ?_
        exact j_zret h dX7_isAsAtFirst_31 hf
      · refine j_iconst (q := 27) (1) h dX7_isAsAtFirst_26 ki_1 rfl ?_
        refine j_goto 31 h dX7_isAsAtFirst_27 (by decide) ?_
        exact j_zret h dX7_isAsAtFirst_31 hf
theorem ct_X7_isAsAtFirst (l : Launch) (D : va_G) (T : TT) {K : KT} {P : PT} {l0 : Nat} {l1 : Int32} {V : VT} {res : Int32 × VT} (hf : f_X7_isAsAtFirst K P l0 l1 V = some res) : CT l D T yX7_isAsAtFirst cX7_isAsAtFirst 2 (some .boolean) rm_X7_isAsAtFirst K P V [.ref l0, .int l1] (some (.int res.1)) res.2 :=
  fun _ => CT_of pn_X7 (cat_a (cat_i cat_0)) (Nat.le_of_ble_eq_true rfl) [some (.ref l0), some (.int l1)] rfl (fun _ _ _ h => w_X7_isAsAtFirst_0 h hf)
/-! QuotedLayersModel.fitsRow(III)Z -/
def rm_X7_fitsRow : Room := { frames := 4, cells := 0, slots := 0, locals := 92 }
theorem rf_X7_fitsRow_X7_layPad : RF rm_X7_layPad rm_X7_fitsRow 2 := ⟨⟨by decide, by decide⟩, rfl, rfl⟩
theorem rf_X7_fitsRow_X7_readBy : RF rm_X7_readBy rm_X7_fitsRow 9 := ⟨⟨by decide, by decide⟩, rfl, rfl⟩
def f_X7_fitsRow_45 (K : KT) (P : PT) (l0 : Nat) (l1 : Int32) (s0 : Int32) (V : VT) : Option (Int32 × VT) :=
  if s0 = 0 then (rB ((0 : Int32)) V) else (cV K l0 5 (f_X7_readBy K P l0 l1 V) fun x2 V1 => if x2 < 0 then (rB ((1 : Int32)) V1) else (rB ((0 : Int32)) V1))
def f_X7_fitsRow_44 (K : KT) (P : PT) (l0 : Nat) (l1 : Int32) (V : VT) : Option (Int32 × VT) :=
  f_X7_fitsRow_45 K P l0 l1 ((0 : Int32)) V
def f_X7_fitsRow_40 (K : KT) (P : PT) (l0 : Nat) (l1 : Int32) (V : VT) : Option (Int32 × VT) :=
  f_X7_fitsRow_45 K P l0 l1 ((1 : Int32)) V
def f_X7_fitsRow_21 (K : KT) (P : PT) (l0 : Nat) (l1 : Int32) (l2 : Int32) (s0 : Int32) (V : VT) : Option (Int32 × VT) :=
  if s0 = 0 then (f_X7_fitsRow_44 K P l0 l1 V) else (if l2 < 0 then (f_X7_fitsRow_40 K P l0 l1 V) else (cV K l0 5 (f_X7_readBy K P l0 l2 V) fun x2 V1 => if x2 < 0 then (f_X7_fitsRow_40 K P l0 l1 V1) else (f_X7_fitsRow_44 K P l0 l1 V1)))
def f_X7_fitsRow_16 (K : KT) (P : PT) (l0 : Nat) (l1 : Int32) (l2 : Int32) (V : VT) : Option (Int32 × VT) :=
  f_X7_fitsRow_21 K P l0 l1 l2 ((1 : Int32)) V
def f_X7_fitsRow (K : KT) (P : PT) (l0 : Nat) (l1 : Int32) (l2 : Int32) (l3 : Int32) (V : VT) : Option (Int32 × VT) :=
  cV K l0 5 (f_X7_layPad K P l0 V) fun u2 V1 => if l3 < 0 then (f_X7_fitsRow_16 K P l0 l1 l2 V1) else (cV K l0 5 (f_X7_readBy K P l0 l3 V1) fun x4 V3 => if x4 < 0 then (f_X7_fitsRow_16 K P l0 l1 l2 V3) else (f_X7_fitsRow_21 K P l0 l1 l2 ((0 : Int32)) V3))
set_option maxRecDepth 20000 in
theorem w_X7_fitsRow_45 {g : GT} {K : KT} {P : PT} {res : Int32 × VT} (h : OK g RX7 cX7_fitsRow 5 (some .boolean)) {l0 : Nat} {l1 : Int32} {s0 : Int32} {V : VT} (hf : f_X7_fitsRow_45 K P l0 l1 s0 V = some res) : J g rm_X7_fitsRow (QF g (some (.int res.1)) K P res.2 0 0) 5 K P V 0 0 45 [some (.ref l0), some (.int l1), none, none, none] [.int s0] := by
  rw [f_X7_fitsRow_45] at hf
  refine j_istore (q := 47) [_, _, _, _, _] h dX7_fitsRow_45 rfl (by decide) rfl rfl ?_
  refine j_iload (q := 49) h dX7_fitsRow_47 rfl rfl ?_
  refine j_if_eq (q := 52) 64 h dX7_fitsRow_49 (by decide) rfl hf (fun hf => ?_) (fun hf => ?_)
  · refine j_iconst (q := 65) (0) h dX7_fitsRow_64 ki_0 rfl ?_
    exact j_zret h dX7_fitsRow_65 hf
  · refine j_aload_n (q := 53) h dX7_fitsRow_52 rfl rfl ?_
    refine j_iload_n (q := 54) h dX7_fitsRow_53 rfl rfl ?_
    refine j_cVi (q := 57) (As := [.int _]) h rfl hf (fun _ hx => ct_X7_readBy _ _ _ hx) ml_X7_130 vw_X7_readBy rf_X7_fitsRow_X7_readBy ⟨Nat.zero_le _, Nat.zero_le _⟩ (Nat.le_of_ble_eq_true rfl) dX7_fitsRow_54 rfl (fun _ _ hf => ?_)
    refine j_if_ge (q := 60) 64 h dX7_fitsRow_57 (by decide) rfl hf (fun hf => ?_) (fun hf => ?_)
    · refine j_iconst (q := 65) (0) h dX7_fitsRow_64 ki_0 rfl ?_
      exact j_zret h dX7_fitsRow_65 hf
    · refine j_iconst (q := 61) (1) h dX7_fitsRow_60 ki_1 rfl ?_
      refine j_goto 65 h dX7_fitsRow_61 (by decide) ?_
      exact j_zret h dX7_fitsRow_65 hf
set_option maxRecDepth 20000 in
theorem w_X7_fitsRow_44 {g : GT} {K : KT} {P : PT} {res : Int32 × VT} (h : OK g RX7 cX7_fitsRow 5 (some .boolean)) {l0 : Nat} {l1 : Int32} {V : VT} (hf : f_X7_fitsRow_44 K P l0 l1 V = some res) : J g rm_X7_fitsRow (QF g (some (.int res.1)) K P res.2 0 0) 5 K P V 0 0 44 [some (.ref l0), some (.int l1), none, none, none] [] := by
  rw [f_X7_fitsRow_44] at hf
  refine j_iconst (q := 45) (0) h dX7_fitsRow_44 ki_0 rfl ?_
  exact j_sub (lsub_s (lsub_s (lsub_n (lsub_n (lsub_n lsub_0))))) (w_X7_fitsRow_45 h hf)
set_option maxRecDepth 20000 in
theorem w_X7_fitsRow_40 {g : GT} {K : KT} {P : PT} {res : Int32 × VT} (h : OK g RX7 cX7_fitsRow 5 (some .boolean)) {l0 : Nat} {l1 : Int32} {V : VT} (hf : f_X7_fitsRow_40 K P l0 l1 V = some res) : J g rm_X7_fitsRow (QF g (some (.int res.1)) K P res.2 0 0) 5 K P V 0 0 40 [some (.ref l0), some (.int l1), none, none, none] [] := by
  rw [f_X7_fitsRow_40] at hf
  refine j_iconst (q := 41) (1) h dX7_fitsRow_40 ki_1 rfl ?_
  refine j_goto 45 h dX7_fitsRow_41 (by decide) ?_
  exact j_sub (lsub_s (lsub_s (lsub_n (lsub_n (lsub_n lsub_0))))) (w_X7_fitsRow_45 h hf)
set_option maxRecDepth 20000 in
theorem w_X7_fitsRow_21 {g : GT} {K : KT} {P : PT} {res : Int32 × VT} (h : OK g RX7 cX7_fitsRow 5 (some .boolean)) {l0 : Nat} {l1 : Int32} {l2 : Int32} {s0 : Int32} {V : VT} (hf : f_X7_fitsRow_21 K P l0 l1 l2 s0 V = some res) : J g rm_X7_fitsRow (QF g (some (.int res.1)) K P res.2 0 0) 5 K P V 0 0 21 [some (.ref l0), some (.int l1), some (.int l2), none, none] [.int s0] := by
  rw [f_X7_fitsRow_21] at hf
  refine j_istore (q := 23) [_, _, _, _, _] h dX7_fitsRow_21 rfl (by decide) rfl rfl ?_
  refine j_iload (q := 25) h dX7_fitsRow_23 rfl rfl ?_
  refine j_if_eq (q := 28) 44 h dX7_fitsRow_25 (by decide) rfl hf (fun hf => ?_) (fun hf => ?_)
  · exact j_sub (lsub_s (lsub_s (lsub_n (lsub_n (lsub_n lsub_0))))) (w_X7_fitsRow_44 h hf)
  · refine j_iload_n (q := 29) h dX7_fitsRow_28 rfl rfl ?_
    refine j_if_lt (q := 32) 40 h dX7_fitsRow_29 (by decide) rfl hf (fun hf => ?_) (fun hf => ?_)
    · exact j_sub (lsub_s (lsub_s (lsub_n (lsub_n (lsub_n lsub_0))))) (w_X7_fitsRow_40 h hf)
    · refine j_aload_n (q := 33) h dX7_fitsRow_32 rfl rfl ?_
      refine j_iload_n (q := 34) h dX7_fitsRow_33 rfl rfl ?_
      refine j_cVi (q := 37) (As := [.int _]) h rfl hf (fun _ hx => ct_X7_readBy _ _ _ hx) ml_X7_130 vw_X7_readBy rf_X7_fitsRow_X7_readBy ⟨Nat.zero_le _, Nat.zero_le _⟩ (Nat.le_of_ble_eq_true rfl) dX7_fitsRow_34 rfl (fun _ _ hf => ?_)
      refine j_if_ge (q := 40) 44 h dX7_fitsRow_37 (by decide) rfl hf (fun hf => ?_) (fun hf => ?_)
      · exact j_sub (lsub_s (lsub_s (lsub_n (lsub_n (lsub_n lsub_0))))) (w_X7_fitsRow_44 h hf)
      · exact j_sub (lsub_s (lsub_s (lsub_n (lsub_n (lsub_n lsub_0))))) (w_X7_fitsRow_40 h hf)
set_option maxRecDepth 20000 in
theorem w_X7_fitsRow_16 {g : GT} {K : KT} {P : PT} {res : Int32 × VT} (h : OK g RX7 cX7_fitsRow 5 (some .boolean)) {l0 : Nat} {l1 : Int32} {l2 : Int32} {V : VT} (hf : f_X7_fitsRow_16 K P l0 l1 l2 V = some res) : J g rm_X7_fitsRow (QF g (some (.int res.1)) K P res.2 0 0) 5 K P V 0 0 16 [some (.ref l0), some (.int l1), some (.int l2), none, none] [] := by
  rw [f_X7_fitsRow_16] at hf
  refine j_iconst (q := 17) (1) h dX7_fitsRow_16 ki_1 rfl ?_
  refine j_goto 21 h dX7_fitsRow_17 (by decide) ?_
  exact j_sub (lsub_s (lsub_s (lsub_s (lsub_n (lsub_n lsub_0))))) (w_X7_fitsRow_21 h hf)
set_option maxRecDepth 20000 in
theorem w_X7_fitsRow_0 {g : GT} {K : KT} {P : PT} {res : Int32 × VT} (h : OK g RX7 cX7_fitsRow 5 (some .boolean)) {l0 : Nat} {l1 : Int32} {l2 : Int32} {l3 : Int32} {V : VT} (hf : f_X7_fitsRow K P l0 l1 l2 l3 V = some res) : J g rm_X7_fitsRow (QF g (some (.int res.1)) K P res.2 0 0) 5 K P V 0 0 0 [some (.ref l0), some (.int l1), some (.int l2), some (.int l3), none] [] := by
  rw [f_X7_fitsRow] at hf
  refine j_aload_n (q := 1) h dX7_fitsRow_0 rfl rfl ?_
  refine j_cVv (q := 4) (As := []) h rfl hf (fun _ hx => ct_X7_layPad _ _ _ hx) ml_X7_133 vw_X7_layPad rf_X7_fitsRow_X7_layPad ⟨Nat.zero_le _, Nat.zero_le _⟩ (Nat.le_of_ble_eq_true rfl) dX7_fitsRow_1 rfl (fun _ _ hf => ?_)
  refine j_iload_n (q := 5) h dX7_fitsRow_4 rfl rfl ?_
  refine j_if_lt (q := 8) 16 h dX7_fitsRow_5 (by decide) rfl hf (fun hf => ?_) (fun hf => ?_)
  · exact j_sub (lsub_s (lsub_s (lsub_s (lsub_n (lsub_n lsub_0))))) (w_X7_fitsRow_16 h hf)
  · refine j_aload_n (q := 9) h dX7_fitsRow_8 rfl rfl ?_
    refine j_iload_n (q := 10) h dX7_fitsRow_9 rfl rfl ?_
    refine j_cVi (q := 13) (As := [.int _]) h rfl hf (fun _ hx => ct_X7_readBy _ _ _ hx) ml_X7_130 vw_X7_readBy rf_X7_fitsRow_X7_readBy ⟨Nat.zero_le _, Nat.zero_le _⟩ (Nat.le_of_ble_eq_true rfl) dX7_fitsRow_10 rfl (fun _ _ hf => ?_)
    refine j_if_ge (q := 16) 20 h dX7_fitsRow_13 (by decide) rfl hf (fun hf => ?_) (fun hf => ?_)
    · refine j_iconst (q := 21) (0) h dX7_fitsRow_20 ki_0 rfl ?_
      exact j_sub (lsub_s (lsub_s (lsub_s (lsub_n (lsub_n lsub_0))))) (w_X7_fitsRow_21 h hf)
    · exact j_sub (lsub_s (lsub_s (lsub_s (lsub_n (lsub_n lsub_0))))) (w_X7_fitsRow_16 h hf)
theorem ct_X7_fitsRow (l : Launch) (D : va_G) (T : TT) {K : KT} {P : PT} {l0 : Nat} {l1 : Int32} {l2 : Int32} {l3 : Int32} {V : VT} {res : Int32 × VT} (hf : f_X7_fitsRow K P l0 l1 l2 l3 V = some res) : CT l D T yX7_fitsRow cX7_fitsRow 5 (some .boolean) rm_X7_fitsRow K P V [.ref l0, .int l1, .int l2, .int l3] (some (.int res.1)) res.2 :=
  fun _ => CT_of pn_X7 (cat_a (cat_i (cat_i (cat_i cat_0)))) (Nat.le_of_ble_eq_true rfl) [some (.ref l0), some (.int l1), some (.int l2), some (.int l3), none] rfl (fun _ _ _ h => w_X7_fitsRow_0 h hf)
