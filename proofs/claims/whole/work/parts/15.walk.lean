/-! QuotedLayersModel.fault()I -/
def rm_X7_fault : Room := { frames := 4, cells := 0, slots := 0, locals := 89 }
theorem rf_X7_fault_X7_faultOf : RF rm_X7_faultOf rm_X7_fault 5 := ⟨⟨by decide, by decide⟩, rfl, rfl⟩
def f_X7_fault (K : KT) (P : PT) (l0 : Nat) (V : VT) : Option (Int32 × VT) :=
  cV K l0 5 (f_X7_faultOf K P l0 V) fun x2 V1 => some (x2, V1)
set_option maxRecDepth 20000 in
theorem w_X7_fault_0 {g : GT} {K : KT} {P : PT} {res : Int32 × VT} (h : OK g RX7 cX7_fault 1 (some .int)) {l0 : Nat} {V : VT} (hf : f_X7_fault K P l0 V = some res) : J g rm_X7_fault (QF g (some (.int res.1)) K P res.2 0 0) 1 K P V 0 0 0 [some (.ref l0)] [] := by
  rw [f_X7_fault] at hf
  refine j_aload_n (q := 1) h dX7_fault_0 rfl rfl ?_
  refine j_cVi (q := 4) (As := []) h rfl hf (fun _ hx => ct_X7_faultOf _ _ _ hx) ml_X7_77 vw_X7_faultOf rf_X7_fault_X7_faultOf ⟨Nat.zero_le _, Nat.zero_le _⟩ (Nat.le_of_ble_eq_true rfl) dX7_fault_1 rfl (fun _ _ hf => ?_)
  exact j_iret h dX7_fault_4 hf
theorem ct_X7_fault (l : Launch) (D : va_G) (T : TT) {K : KT} {P : PT} {l0 : Nat} {V : VT} {res : Int32 × VT} (hf : f_X7_fault K P l0 V = some res) : CT l D T yX7_fault cX7_fault 1 (some .int) rm_X7_fault K P V [.ref l0] (some (.int res.1)) res.2 :=
  fun _ => CT_of pn_X7 (cat_a cat_0) (Nat.le_of_ble_eq_true rfl) [some (.ref l0)] rfl (fun _ _ _ h => w_X7_fault_0 h hf)
/-! QuotedLayersModel.layer(I)I -/
def rm_X7_layer : Room := { frames := 4, cells := 0, slots := 0, locals := 89 }
theorem rf_X7_layer_X7_faultOf : RF rm_X7_faultOf rm_X7_layer 5 := ⟨⟨by decide, by decide⟩, rfl, rfl⟩
theorem rf_X7_layer_X7_isLayer : RF rm_X7_isLayer rm_X7_layer 1 := ⟨⟨by decide, by decide⟩, rfl, rfl⟩
def f_X7_layer_118 (K : KT) (P : PT) : Nat → Nat → Int32 → Int32 → Int32 → VT → Option (Int32 × VT)
  | 0, _, _, _, _, _ => none
  | n + 1, l0, l1, l3, l4, V => gR K P l0 5 5 fun b1 => aI K V 0 b1 l1 fun x2 => if l4 < x2 then (gR K P l0 5 6 fun b6 => gR K P l0 5 1 fun b7 => aI K V 0 b7 (l3 + l4) fun x8 => sA K V b6 ((((6 : Int32)) * l1) + l4) x8 fun V9 => (f_X7_layer_118 K P n) l0 l1 l3 (l4 + (1 : Int32)) V9) else (sI K V l0 5 0 ((0 : Int32)) fun V3 => gR K P l0 5 5 fun b4 => aI K V3 0 b4 l1 fun x5 => some (x5, V3))
def f_X7_layer_102 (K : KT) (P : PT) (l0 : Nat) (l1 : Int32) (s0 : Int32) (V : VT) : Option (Int32 × VT) :=
  gR K P l0 5 5 fun b1 => gI K V l0 5 0 fun x2 => sA K V b1 l1 (x2 - s0) fun V3 => f_X7_layer_118 K P FU l0 l1 s0 ((0 : Int32)) V3
def f_X7_layer_92 (K : KT) (P : PT) (l0 : Nat) (l1 : Int32) (l2 : Int32) (s0 : Nat) (s1 : Int32) (s2 : Int32) (V : VT) : Option (Int32 × VT) :=
  sA K V s0 s1 s2 fun V1 => if l2 = 0 then (f_X7_layer_102 K P l0 l1 ((2 : Int32)) V1) else (f_X7_layer_102 K P l0 l1 ((3 : Int32)) V1)
def f_X7_layer_71 (K : KT) (P : PT) (l0 : Nat) (l1 : Int32) (s0 : Int32) (V : VT) : Option (Int32 × VT) :=
  gR K P l0 5 4 fun b1 => if s0 = 0 then (f_X7_layer_92 K P l0 l1 s0 b1 l1 ((-6 : Int32)) V) else (gR K P l0 5 1 fun b2 => aI K V 0 b2 ((2 : Int32)) fun x3 => f_X7_layer_92 K P l0 l1 s0 b1 l1 x3 V)
def f_X7_layer_66 (K : KT) (P : PT) (l0 : Nat) (l1 : Int32) (V : VT) : Option (Int32 × VT) :=
  f_X7_layer_71 K P l0 l1 ((1 : Int32)) V
def f_X7_layer (K : KT) (P : PT) (l0 : Nat) (l1 : Int32) (V : VT) : Option (Int32 × VT) :=
  cS (f_X7_isLayer K P l1 V) fun x2 V1 => if x2 = 0 then (some ((-1 : Int32), V1)) else (cV K l0 5 (f_X7_faultOf K P l0 V1) fun x4 V3 => if x4 < 0 then (gR K P l0 5 2 fun b5 => gR K P l0 5 1 fun b6 => aI K V3 0 b6 ((0 : Int32)) fun x7 => sA K V3 b5 l1 x7 fun V8 => gR K P l0 5 3 fun b9 => gR K P l0 5 1 fun b10 => aI K V8 0 b10 ((1 : Int32)) fun x11 => sA K V8 b9 l1 (x11 - ((48 : Int32))) fun V12 => gR K P l0 5 3 fun b13 => aI K V12 0 b13 l1 fun x14 => if x14 = ((1 : Int32)) then (f_X7_layer_66 K P l0 l1 V12) else (gR K P l0 5 3 fun b15 => aI K V12 0 b15 l1 fun x16 => if x16 = ((3 : Int32)) then (f_X7_layer_66 K P l0 l1 V12) else (f_X7_layer_71 K P l0 l1 ((0 : Int32)) V12))) else (some ((-5 : Int32), V3)))
set_option maxRecDepth 20000 in
theorem w_X7_layer_118 {g : GT} {K : KT} {P : PT} {res : Int32 × VT} (h : OK g RX7 cX7_layer 5 (some .int)) : ∀ (n : Nat) (l0 : Nat) (l1 : Int32) (l3 : Int32) (l4 : Int32) (V : VT), f_X7_layer_118 K P n l0 l1 l3 l4 V = some res → J g rm_X7_layer (QF g (some (.int res.1)) K P res.2 0 0) 5 K P V 0 0 118 [some (.ref l0), some (.int l1), none, some (.int l3), some (.int l4)] [] := by
  intro n
  induction n with
  | zero => intro l0 l1 l3 l4 V hf; rw [f_X7_layer_118] at hf; cases hf
  | succ n ih =>
    intro l0 l1 l3 l4 V hf
    rw [f_X7_layer_118] at hf
    refine j_iload (q := 120) h dX7_layer_118 rfl rfl ?_
    refine j_aload_n (q := 121) h dX7_layer_120 rfl rfl ?_
    refine j_gR (q := 124) h uin_X7 rfl rfl (by decide) rfl fl_X7_22 dX7_layer_121 rfl hf (fun b1 hf => ?_)
    refine j_iload_n (q := 125) h dX7_layer_124 rfl rfl ?_
    refine j_iald (q := 126) h dX7_layer_125 rfl hf (fun hf => ?_)
    refine j_icmp_ge (q := 129) 156 h dX7_layer_126 (by decide) rfl hf (fun hf => ?_) (fun hf => ?_)
    · refine j_aload_n (q := 157) h dX7_layer_156 rfl rfl ?_
      refine j_iconst (q := 158) (0) h dX7_layer_157 ki_0 rfl ?_
      refine j_sI (q := 161) h tyX7 tyX7_ok nmX7 uin_X7 rfl rfl (by decide) rfl rfl (by decide +kernel) fl_X7_67 dX7_layer_158 rfl hf (fun hf => ?_)
      refine j_aload_n (q := 162) h dX7_layer_161 rfl rfl ?_
      refine j_gR (q := 165) h uin_X7 rfl rfl (by decide) rfl fl_X7_22 dX7_layer_162 rfl hf (fun b4 hf => ?_)
      refine j_iload_n (q := 166) h dX7_layer_165 rfl rfl ?_
      refine j_iald (q := 167) h dX7_layer_166 rfl hf (fun hf => ?_)
      exact j_iret h dX7_layer_167 hf
    · refine j_aload_n (q := 130) h dX7_layer_129 rfl rfl ?_
      refine j_gR (q := 133) h uin_X7 rfl rfl (by decide) rfl fl_X7_25 dX7_layer_130 rfl hf (fun b6 hf => ?_)
      refine j_bipush (q := 135) (6) h dX7_layer_133 kb_6 rfl ?_
      refine j_iload_n (q := 136) h dX7_layer_135 rfl rfl ?_
      refine j_imul (q := 137) h dX7_layer_136 rfl ?_
      refine j_iload (q := 139) h dX7_layer_137 rfl rfl ?_
      refine j_iadd (q := 140) h dX7_layer_139 rfl ?_
      refine j_aload_n (q := 141) h dX7_layer_140 rfl rfl ?_
      refine j_gR (q := 144) h uin_X7 rfl rfl (by decide) rfl fl_X7_7 dX7_layer_141 rfl hf (fun b7 hf => ?_)
      refine j_iload_n (q := 145) h dX7_layer_144 rfl rfl ?_
      refine j_iload (q := 147) h dX7_layer_145 rfl rfl ?_
      refine j_iadd (q := 148) h dX7_layer_147 rfl ?_
      refine j_iald (q := 149) h dX7_layer_148 rfl hf (fun hf => ?_)
      refine j_iast (q := 150) h dX7_layer_149 rfl hf (fun hf => ?_)
      refine j_iinc (q := 153) _ [_, _, _, _, _] h dX7_layer_150 rfl (by decide) rfl (kc_1 _) rfl rfl ?_
      refine j_goto 118 h dX7_layer_153 (by decide) ?_
      exact j_sub (lsub_s (lsub_s (lsub_n (lsub_s (lsub_s lsub_0))))) (ih _ _ _ _ _ hf)
set_option maxRecDepth 20000 in
theorem w_X7_layer_102 {g : GT} {K : KT} {P : PT} {res : Int32 × VT} (h : OK g RX7 cX7_layer 5 (some .int)) {l0 : Nat} {l1 : Int32} {s0 : Int32} {V : VT} (hf : f_X7_layer_102 K P l0 l1 s0 V = some res) : J g rm_X7_layer (QF g (some (.int res.1)) K P res.2 0 0) 5 K P V 0 0 102 [some (.ref l0), some (.int l1), none, none, none] [.int s0] := by
  rw [f_X7_layer_102] at hf
  refine j_istore_n (q := 103) [_, _, _, _, _] h dX7_layer_102 rfl (by decide) rfl rfl ?_
  refine j_aload_n (q := 104) h dX7_layer_103 rfl rfl ?_
  refine j_gR (q := 107) h uin_X7 rfl rfl (by decide) rfl fl_X7_22 dX7_layer_104 rfl hf (fun b1 hf => ?_)
  refine j_iload_n (q := 108) h dX7_layer_107 rfl rfl ?_
  refine j_aload_n (q := 109) h dX7_layer_108 rfl rfl ?_
  refine j_gI (q := 112) h uin_X7 rfl rfl (by decide) rfl fl_X7_67 dX7_layer_109 rfl hf (fun hf => ?_)
  refine j_iload_n (q := 113) h dX7_layer_112 rfl rfl ?_
  refine j_isub (q := 114) h dX7_layer_113 rfl ?_
  refine j_iast (q := 115) h dX7_layer_114 rfl hf (fun hf => ?_)
  refine j_iconst (q := 116) (0) h dX7_layer_115 ki_0 rfl ?_
  refine j_istore (q := 118) [_, _, _, _, _] h dX7_layer_116 rfl (by decide) rfl rfl ?_
  exact j_sub (lsub_s (lsub_s (lsub_n (lsub_s (lsub_s lsub_0))))) (w_X7_layer_118 h FU _ _ _ _ _ hf)
set_option maxRecDepth 20000 in
theorem w_X7_layer_92 {g : GT} {K : KT} {P : PT} {res : Int32 × VT} (h : OK g RX7 cX7_layer 5 (some .int)) {l0 : Nat} {l1 : Int32} {l2 : Int32} {s0 : Nat} {s1 : Int32} {s2 : Int32} {V : VT} (hf : f_X7_layer_92 K P l0 l1 l2 s0 s1 s2 V = some res) : J g rm_X7_layer (QF g (some (.int res.1)) K P res.2 0 0) 5 K P V 0 0 92 [some (.ref l0), some (.int l1), some (.int l2), none, none] [.int s2, .int s1, .ref s0] := by
  rw [f_X7_layer_92] at hf
  refine j_iast (q := 93) h dX7_layer_92 rfl hf (fun hf => ?_)
  refine j_iload_n (q := 94) h dX7_layer_93 rfl rfl ?_
  refine j_if_eq (q := 97) 101 h dX7_layer_94 (by decide) rfl hf (fun hf => ?_) (fun hf => ?_)
  · refine j_iconst (q := 102) (2) h dX7_layer_101 ki_2 rfl ?_
    exact j_sub (lsub_s (lsub_s (lsub_n (lsub_n (lsub_n lsub_0))))) (w_X7_layer_102 h hf)
  · refine j_iconst (q := 98) (3) h dX7_layer_97 ki_3 rfl ?_
    refine j_goto 102 h dX7_layer_98 (by decide) ?_
    exact j_sub (lsub_s (lsub_s (lsub_n (lsub_n (lsub_n lsub_0))))) (w_X7_layer_102 h hf)
set_option maxRecDepth 20000 in
theorem w_X7_layer_71 {g : GT} {K : KT} {P : PT} {res : Int32 × VT} (h : OK g RX7 cX7_layer 5 (some .int)) {l0 : Nat} {l1 : Int32} {s0 : Int32} {V : VT} (hf : f_X7_layer_71 K P l0 l1 s0 V = some res) : J g rm_X7_layer (QF g (some (.int res.1)) K P res.2 0 0) 5 K P V 0 0 71 [some (.ref l0), some (.int l1), none, none, none] [.int s0] := by
  rw [f_X7_layer_71] at hf
  refine j_istore_n (q := 72) [_, _, _, _, _] h dX7_layer_71 rfl (by decide) rfl rfl ?_
  refine j_aload_n (q := 73) h dX7_layer_72 rfl rfl ?_
  refine j_gR (q := 76) h uin_X7 rfl rfl (by decide) rfl fl_X7_19 dX7_layer_73 rfl hf (fun b1 hf => ?_)
  refine j_iload_n (q := 77) h dX7_layer_76 rfl rfl ?_
  refine j_iload_n (q := 78) h dX7_layer_77 rfl rfl ?_
  refine j_if_eq (q := 81) 90 h dX7_layer_78 (by decide) rfl hf (fun hf => ?_) (fun hf => ?_)
  · refine j_bipush (q := 92) (-6) h dX7_layer_90 kb_m6 rfl ?_
    exact j_sub (lsub_s (lsub_s (lsub_s (lsub_n (lsub_n lsub_0))))) (w_X7_layer_92 h hf)
  · refine j_aload_n (q := 82) h dX7_layer_81 rfl rfl ?_
    refine j_gR (q := 85) h uin_X7 rfl rfl (by decide) rfl fl_X7_7 dX7_layer_82 rfl hf (fun b2 hf => ?_)
    refine j_iconst (q := 86) (2) h dX7_layer_85 ki_2 rfl ?_
    refine j_iald (q := 87) h dX7_layer_86 rfl hf (fun hf => ?_)
    refine j_goto 92 h dX7_layer_87 (by decide) ?_
    exact j_sub (lsub_s (lsub_s (lsub_s (lsub_n (lsub_n lsub_0))))) (w_X7_layer_92 h hf)
set_option maxRecDepth 20000 in
theorem w_X7_layer_66 {g : GT} {K : KT} {P : PT} {res : Int32 × VT} (h : OK g RX7 cX7_layer 5 (some .int)) {l0 : Nat} {l1 : Int32} {V : VT} (hf : f_X7_layer_66 K P l0 l1 V = some res) : J g rm_X7_layer (QF g (some (.int res.1)) K P res.2 0 0) 5 K P V 0 0 66 [some (.ref l0), some (.int l1), none, none, none] [] := by
  rw [f_X7_layer_66] at hf
  refine j_iconst (q := 67) (1) h dX7_layer_66 ki_1 rfl ?_
  refine j_goto 71 h dX7_layer_67 (by decide) ?_
  exact j_sub (lsub_s (lsub_s (lsub_n (lsub_n (lsub_n lsub_0))))) (w_X7_layer_71 h hf)
set_option maxRecDepth 20000 in
theorem w_X7_layer_0 {g : GT} {K : KT} {P : PT} {res : Int32 × VT} (h : OK g RX7 cX7_layer 5 (some .int)) {l0 : Nat} {l1 : Int32} {V : VT} (hf : f_X7_layer K P l0 l1 V = some res) : J g rm_X7_layer (QF g (some (.int res.1)) K P res.2 0 0) 5 K P V 0 0 0 [some (.ref l0), some (.int l1), none, none, none] [] := by
  rw [f_X7_layer] at hf
  refine j_iload_n (q := 1) h dX7_layer_0 rfl rfl ?_
  refine j_cSi (q := 4) (As := [.int _]) h rfl hf (fun _ hx => ct_X7_isLayer _ _ _ hx) ml_X7_81 sw_X7_isLayer rf_X7_layer_X7_isLayer ⟨Nat.zero_le _, Nat.zero_le _⟩ (Nat.le_of_ble_eq_true rfl) dX7_layer_1 rfl (fun _ _ hf => ?_)
  refine j_if_ne (q := 7) 9 h dX7_layer_4 (by decide) rfl hf (fun hf => ?_) (fun hf => ?_)
  · refine j_aload_n (q := 10) h dX7_layer_9 rfl rfl ?_
    refine j_cVi (q := 13) (As := []) h rfl hf (fun _ hx => ct_X7_faultOf _ _ _ hx) ml_X7_77 vw_X7_faultOf rf_X7_layer_X7_faultOf ⟨Nat.zero_le _, Nat.zero_le _⟩ (Nat.le_of_ble_eq_true rfl) dX7_layer_10 rfl (fun _ _ hf => ?_)
    refine j_if_lt (q := 16) 19 h dX7_layer_13 (by decide) rfl hf (fun hf => ?_) (fun hf => ?_)
    · refine j_aload_n (q := 20) h dX7_layer_19 rfl rfl ?_
      refine j_gR (q := 23) h uin_X7 rfl rfl (by decide) rfl fl_X7_13 dX7_layer_20 rfl hf (fun b5 hf => ?_)
      refine j_iload_n (q := 24) h dX7_layer_23 rfl rfl ?_
      refine j_aload_n (q := 25) h dX7_layer_24 rfl rfl ?_
      refine j_gR (q := 28) h uin_X7 rfl rfl (by decide) rfl fl_X7_7 dX7_layer_25 rfl hf (fun b6 hf => ?_)
      refine j_iconst (q := 29) (0) h dX7_layer_28 ki_0 rfl ?_
      refine j_iald (q := 30) h dX7_layer_29 rfl hf (fun hf => ?_)
      refine j_iast (q := 31) h dX7_layer_30 rfl hf (fun hf => ?_)
      refine j_aload_n (q := 32) h dX7_layer_31 rfl rfl ?_
      refine j_gR (q := 35) h uin_X7 rfl rfl (by decide) rfl fl_X7_16 dX7_layer_32 rfl hf (fun b9 hf => ?_)
      refine j_iload_n (q := 36) h dX7_layer_35 rfl rfl ?_
      refine j_aload_n (q := 37) h dX7_layer_36 rfl rfl ?_
      refine j_gR (q := 40) h uin_X7 rfl rfl (by decide) rfl fl_X7_7 dX7_layer_37 rfl hf (fun b10 hf => ?_)
      refine j_iconst (q := 41) (1) h dX7_layer_40 ki_1 rfl ?_
      refine j_iald (q := 42) h dX7_layer_41 rfl hf (fun hf => ?_)
      refine j_bipush (q := 44) (48) h dX7_layer_42 kb_48 rfl ?_
      refine j_isub (q := 45) h dX7_layer_44 rfl ?_
      refine j_iast (q := 46) h dX7_layer_45 rfl hf (fun hf => ?_)
      refine j_aload_n (q := 47) h dX7_layer_46 rfl rfl ?_
      refine j_gR (q := 50) h uin_X7 rfl rfl (by decide) rfl fl_X7_16 dX7_layer_47 rfl hf (fun b13 hf => ?_)
      refine j_iload_n (q := 51) h dX7_layer_50 rfl rfl ?_
      refine j_iald (q := 52) h dX7_layer_51 rfl hf (fun hf => ?_)
      refine j_iconst (q := 53) (1) h dX7_layer_52 ki_1 rfl ?_
      refine j_icmp_eq (q := 56) 66 h dX7_layer_53 (by decide) rfl hf (fun hf => ?_) (fun hf => ?_)
      · exact j_sub (lsub_s (lsub_s (lsub_n (lsub_n (lsub_n lsub_0))))) (w_X7_layer_66 h hf)
      · refine j_aload_n (q := 57) h dX7_layer_56 rfl rfl ?_
        refine j_gR (q := 60) h uin_X7 rfl rfl (by decide) rfl fl_X7_16 dX7_layer_57 rfl hf (fun b15 hf => ?_)
        refine j_iload_n (q := 61) h dX7_layer_60 rfl rfl ?_
        refine j_iald (q := 62) h dX7_layer_61 rfl hf (fun hf => ?_)
        refine j_iconst (q := 63) (3) h dX7_layer_62 ki_3 rfl ?_
        refine j_icmp_ne (q := 66) 70 h dX7_layer_63 (by decide) rfl hf (fun hf => ?_) (fun hf => ?_)
        · refine j_iconst (q := 71) (0) h dX7_layer_70 ki_0 rfl ?_
          exact j_sub (lsub_s (lsub_s (lsub_n (lsub_n (lsub_n lsub_0))))) (w_X7_layer_71 h hf)
        · exact j_sub (lsub_s (lsub_s (lsub_n (lsub_n (lsub_n lsub_0))))) (w_X7_layer_66 h hf)
    · refine j_bipush (q := 18) (-5) h dX7_layer_16 kb_m5 rfl ?_
      exact j_iret h dX7_layer_18 hf
  · refine j_iconst (q := 8) (-1) h dX7_layer_7 ki_m1 rfl ?_
    exact j_iret h dX7_layer_8 hf
theorem ct_X7_layer (l : Launch) (D : va_G) (T : TT) {K : KT} {P : PT} {l0 : Nat} {l1 : Int32} {V : VT} {res : Int32 × VT} (hf : f_X7_layer K P l0 l1 V = some res) : CT l D T yX7_layer cX7_layer 5 (some .int) rm_X7_layer K P V [.ref l0, .int l1] (some (.int res.1)) res.2 :=
  fun _ => CT_of pn_X7 (cat_a (cat_i cat_0)) (Nat.le_of_ble_eq_true rfl) [some (.ref l0), some (.int l1), none, none, none] rfl (fun _ _ _ h => w_X7_layer_0 h hf)
/-! QuotedLayersModel.about(II)I -/
def rm_X7_about : Room := { frames := 2, cells := 0, slots := 0, locals := 42 }
theorem rf_X7_about_X7_in : RF rm_X7_in rm_X7_about 3 := ⟨⟨by decide, by decide⟩, rfl, rfl⟩
theorem rf_X7_about_X7_isLayer : RF rm_X7_isLayer rm_X7_about 1 := ⟨⟨by decide, by decide⟩, rfl, rfl⟩
def f_X7_about (K : KT) (P : PT) (l0 : Nat) (l1 : Int32) (l2 : Int32) (V : VT) : Option (Int32 × VT) :=
  cS (f_X7_isLayer K P l1 V) fun x2 V1 => if x2 = 0 then (some ((-1 : Int32), V1)) else (cS (f_X7_in K P l2 ((0 : Int32)) ((8 : Int32)) V1) fun x4 V3 => if x4 = 0 then (some ((-2 : Int32), V3)) else (if l2 < ((3 : Int32)) then (if l2 = 0 then (gR K P l0 5 2 fun b13 => aI K V3 0 b13 l1 fun x14 => if x14 = ((45 : Int32)) then (some ((-6 : Int32), V3)) else (gR K P l0 5 2 fun b15 => aI K V3 0 b15 l1 fun x16 => some (x16, V3))) else (if l2 = ((1 : Int32)) then (gR K P l0 5 3 fun b11 => aI K V3 0 b11 l1 fun x12 => some (x12, V3)) else (gR K P l0 5 4 fun b9 => aI K V3 0 b9 l1 fun x10 => some (x10, V3)))) else (gR K P l0 5 5 fun b5 => aI K V3 0 b5 l1 fun x6 => if (l2 - ((3 : Int32))) < x6 then (gR K P l0 5 6 fun b7 => aI K V3 0 b7 (((((6 : Int32)) * l1) + l2) - ((3 : Int32))) fun x8 => some (x8, V3)) else (some ((-6 : Int32), V3)))))
set_option maxRecDepth 20000 in
theorem w_X7_about_0 {g : GT} {K : KT} {P : PT} {res : Int32 × VT} (h : OK g RX7 cX7_about 3 (some .int)) {l0 : Nat} {l1 : Int32} {l2 : Int32} {V : VT} (hf : f_X7_about K P l0 l1 l2 V = some res) : J g rm_X7_about (QF g (some (.int res.1)) K P res.2 0 0) 3 K P V 0 0 0 [some (.ref l0), some (.int l1), some (.int l2)] [] := by
  rw [f_X7_about] at hf
  refine j_iload_n (q := 1) h dX7_about_0 rfl rfl ?_
  refine j_cSi (q := 4) (As := [.int _]) h rfl hf (fun _ hx => ct_X7_isLayer _ _ _ hx) ml_X7_81 sw_X7_isLayer rf_X7_about_X7_isLayer ⟨Nat.zero_le _, Nat.zero_le _⟩ (Nat.le_of_ble_eq_true rfl) dX7_about_1 rfl (fun _ _ hf => ?_)
  refine j_if_ne (q := 7) 9 h dX7_about_4 (by decide) rfl hf (fun hf => ?_) (fun hf => ?_)
  · refine j_iload_n (q := 10) h dX7_about_9 rfl rfl ?_
    refine j_iconst (q := 11) (0) h dX7_about_10 ki_0 rfl ?_
    refine j_bipush (q := 13) (8) h dX7_about_11 kb_8 rfl ?_
    refine j_cSi (q := 16) (As := [.int _, .int _, .int _]) h rfl hf (fun _ hx => ct_X7_in _ _ _ hx) ml_X7_63 sw_X7_in rf_X7_about_X7_in ⟨Nat.zero_le _, Nat.zero_le _⟩ (Nat.le_of_ble_eq_true rfl) dX7_about_13 rfl (fun _ _ hf => ?_)
    refine j_if_ne (q := 19) 22 h dX7_about_16 (by decide) rfl hf (fun hf => ?_) (fun hf => ?_)
    · refine j_iload_n (q := 23) h dX7_about_22 rfl rfl ?_
      refine j_iconst (q := 24) (3) h dX7_about_23 ki_3 rfl ?_
      refine j_icmp_ge (q := 27) 77 h dX7_about_24 (by decide) rfl hf (fun hf => ?_) (fun hf => ?_)
      · refine j_iload_n (q := 78) h dX7_about_77 rfl rfl ?_
        refine j_iconst (q := 79) (3) h dX7_about_78 ki_3 rfl ?_
        refine j_isub (q := 80) h dX7_about_79 rfl ?_
        refine j_aload_n (q := 81) h dX7_about_80 rfl rfl ?_
        refine j_gR (q := 84) h uin_X7 rfl rfl (by decide) rfl fl_X7_22 dX7_about_81 rfl hf (fun b5 hf => ?_)
        refine j_iload_n (q := 85) h dX7_about_84 rfl rfl ?_
        refine j_iald (q := 86) h dX7_about_85 rfl hf (fun hf => ?_)
        refine j_icmp_ge (q := 89) 105 h dX7_about_86 (by decide) rfl hf (fun hf => ?_) (fun hf => ?_)
        · refine j_bipush (q := 107) (-6) h dX7_about_105 kb_m6 rfl ?_
          exact j_iret h dX7_about_107 hf
        · refine j_aload_n (q := 90) h dX7_about_89 rfl rfl ?_
          refine j_gR (q := 93) h uin_X7 rfl rfl (by decide) rfl fl_X7_25 dX7_about_90 rfl hf (fun b7 hf => ?_)
          refine j_bipush (q := 95) (6) h dX7_about_93 kb_6 rfl ?_
          refine j_iload_n (q := 96) h dX7_about_95 rfl rfl ?_
          refine j_imul (q := 97) h dX7_about_96 rfl ?_
          refine j_iload_n (q := 98) h dX7_about_97 rfl rfl ?_
          refine j_iadd (q := 99) h dX7_about_98 rfl ?_
          refine j_iconst (q := 100) (3) h dX7_about_99 ki_3 rfl ?_
          refine j_isub (q := 101) h dX7_about_100 rfl ?_
          refine j_iald (q := 102) h dX7_about_101 rfl hf (fun hf => ?_)
          refine j_goto 107 h dX7_about_102 (by decide) ?_
          exact j_iret h dX7_about_107 hf
      · refine j_iload_n (q := 28) h dX7_about_27 rfl rfl ?_
        refine j_if_ne (q := 31) 56 h dX7_about_28 (by decide) rfl hf (fun hf => ?_) (fun hf => ?_)
        · refine j_iload_n (q := 57) h dX7_about_56 rfl rfl ?_
          refine j_iconst (q := 58) (1) h dX7_about_57 ki_1 rfl ?_
          refine j_icmp_ne (q := 61) 70 h dX7_about_58 (by decide) rfl hf (fun hf => ?_) (fun hf => ?_)
          · refine j_aload_n (q := 71) h dX7_about_70 rfl rfl ?_
            refine j_gR (q := 74) h uin_X7 rfl rfl (by decide) rfl fl_X7_19 dX7_about_71 rfl hf (fun b9 hf => ?_)
            refine j_iload_n (q := 75) h dX7_about_74 rfl rfl ?_
            refine j_iald (q := 76) h dX7_about_75 rfl hf (fun hf => ?_)
            exact j_iret h dX7_about_76 hf
          · refine j_aload_n (q := 62) h dX7_about_61 rfl rfl ?_
            refine j_gR (q := 65) h uin_X7 rfl rfl (by decide) rfl fl_X7_16 dX7_about_62 rfl hf (fun b11 hf => ?_)
            refine j_iload_n (q := 66) h dX7_about_65 rfl rfl ?_
            refine j_iald (q := 67) h dX7_about_66 rfl hf (fun hf => ?_)
            refine j_goto 76 h dX7_about_67 (by decide) ?_
            exact j_iret h dX7_about_76 hf
        · refine j_aload_n (q := 32) h dX7_about_31 rfl rfl ?_
          refine j_gR (q := 35) h uin_X7 rfl rfl (by decide) rfl fl_X7_13 dX7_about_32 rfl hf (fun b13 hf => ?_)
          refine j_iload_n (q := 36) h dX7_about_35 rfl rfl ?_
          refine j_iald (q := 37) h dX7_about_36 rfl hf (fun hf => ?_)
          refine j_bipush (q := 39) (45) h dX7_about_37 kb_45 rfl ?_
          refine j_icmp_ne (q := 42) 47 h dX7_about_39 (by decide) rfl hf (fun hf => ?_) (fun hf => ?_)
          · refine j_aload_n (q := 48) h dX7_about_47 rfl rfl ?_
            refine j_gR (q := 51) h uin_X7 rfl rfl (by decide) rfl fl_X7_13 dX7_about_48 rfl hf (fun b15 hf => ?_)
            refine j_iload_n (q := 52) h dX7_about_51 rfl rfl ?_
            refine j_iald (q := 53) h dX7_about_52 rfl hf (fun hf => ?_)
            refine j_goto 76 h dX7_about_53 (by decide) ?_
            exact j_iret h dX7_about_76 hf
          · refine j_bipush (q := 44) (-6) h dX7_about_42 kb_m6 rfl ?_
            refine j_goto 76 h dX7_about_44 (by decide) ?_
            exact j_iret h dX7_about_76 hf
    · refine j_bipush (q := 21) (-2) h dX7_about_19 kb_m2 rfl ?_
      exact j_iret h dX7_about_21 hf
  · refine j_iconst (q := 8) (-1) h dX7_about_7 ki_m1 rfl ?_
    exact j_iret h dX7_about_8 hf
theorem ct_X7_about (l : Launch) (D : va_G) (T : TT) {K : KT} {P : PT} {l0 : Nat} {l1 : Int32} {l2 : Int32} {V : VT} {res : Int32 × VT} (hf : f_X7_about K P l0 l1 l2 V = some res) : CT l D T yX7_about cX7_about 3 (some .int) rm_X7_about K P V [.ref l0, .int l1, .int l2] (some (.int res.1)) res.2 :=
  fun _ => CT_of pn_X7 (cat_a (cat_i (cat_i cat_0))) (Nat.le_of_ble_eq_true rfl) [some (.ref l0), some (.int l1), some (.int l2)] rfl (fun _ _ _ h => w_X7_about_0 h hf)
/-! QuotedLayersModel.chain(I)I -/
def rm_X7_chain : Room := { frames := 2, cells := 0, slots := 0, locals := 42 }
theorem rf_X7_chain_X7_isLayer : RF rm_X7_isLayer rm_X7_chain 1 := ⟨⟨by decide, by decide⟩, rfl, rfl⟩
def f_X7_chain (K : KT) (P : PT) (l0 : Nat) (l1 : Int32) (V : VT) : Option (Int32 × VT) :=
  cS (f_X7_isLayer K P l1 V) fun x2 V1 => if x2 = 0 then (some ((-1 : Int32), V1)) else (gI K V1 l0 5 7 fun x3 => if x3 = ((5 : Int32)) then (some ((-4 : Int32), V1)) else (gR K P l0 5 8 fun b4 => gI K V1 l0 5 7 fun x5 => sA K V1 b4 x5 l1 fun V6 => gI K V6 l0 5 7 fun x7 => sI K V6 l0 5 7 (x7 + ((1 : Int32))) fun V8 => gI K V8 l0 5 7 fun x9 => some (x9, V8)))
set_option maxRecDepth 20000 in
theorem w_X7_chain_0 {g : GT} {K : KT} {P : PT} {res : Int32 × VT} (h : OK g RX7 cX7_chain 2 (some .int)) {l0 : Nat} {l1 : Int32} {V : VT} (hf : f_X7_chain K P l0 l1 V = some res) : J g rm_X7_chain (QF g (some (.int res.1)) K P res.2 0 0) 2 K P V 0 0 0 [some (.ref l0), some (.int l1)] [] := by
  rw [f_X7_chain] at hf
  refine j_iload_n (q := 1) h dX7_chain_0 rfl rfl ?_
  refine j_cSi (q := 4) (As := [.int _]) h rfl hf (fun _ hx => ct_X7_isLayer _ _ _ hx) ml_X7_81 sw_X7_isLayer rf_X7_chain_X7_isLayer ⟨Nat.zero_le _, Nat.zero_le _⟩ (Nat.le_of_ble_eq_true rfl) dX7_chain_1 rfl (fun _ _ hf => ?_)
  refine j_if_ne (q := 7) 9 h dX7_chain_4 (by decide) rfl hf (fun hf => ?_) (fun hf => ?_)
  · refine j_aload_n (q := 10) h dX7_chain_9 rfl rfl ?_
    refine j_gI (q := 13) h uin_X7 rfl rfl (by decide) rfl fl_X7_84 dX7_chain_10 rfl hf (fun hf => ?_)
    refine j_iconst (q := 14) (5) h dX7_chain_13 ki_5 rfl ?_
    refine j_icmp_ne (q := 17) 20 h dX7_chain_14 (by decide) rfl hf (fun hf => ?_) (fun hf => ?_)
    · refine j_aload_n (q := 21) h dX7_chain_20 rfl rfl ?_
      refine j_gR (q := 24) h uin_X7 rfl rfl (by decide) rfl fl_X7_28 dX7_chain_21 rfl hf (fun b4 hf => ?_)
      refine j_aload_n (q := 25) h dX7_chain_24 rfl rfl ?_
      refine j_gI (q := 28) h uin_X7 rfl rfl (by decide) rfl fl_X7_84 dX7_chain_25 rfl hf (fun hf => ?_)
      refine j_iload_n (q := 29) h dX7_chain_28 rfl rfl ?_
      refine j_iast (q := 30) h dX7_chain_29 rfl hf (fun hf => ?_)
      refine j_aload_n (q := 31) h dX7_chain_30 rfl rfl ?_
      refine j_dup (q := 32) h dX7_chain_31 rfl rfl ?_
      refine j_gI (q := 35) h uin_X7 rfl rfl (by decide) rfl fl_X7_84 dX7_chain_32 rfl hf (fun hf => ?_)
      refine j_iconst (q := 36) (1) h dX7_chain_35 ki_1 rfl ?_
      refine j_iadd (q := 37) h dX7_chain_36 rfl ?_
      refine j_sI (q := 40) h tyX7 tyX7_ok nmX7 uin_X7 rfl rfl (by decide) rfl rfl (by decide +kernel) fl_X7_84 dX7_chain_37 rfl hf (fun hf => ?_)
      refine j_aload_n (q := 41) h dX7_chain_40 rfl rfl ?_
      refine j_gI (q := 44) h uin_X7 rfl rfl (by decide) rfl fl_X7_84 dX7_chain_41 rfl hf (fun hf => ?_)
      exact j_iret h dX7_chain_44 hf
    · refine j_bipush (q := 19) (-4) h dX7_chain_17 kb_m4 rfl ?_
      exact j_iret h dX7_chain_19 hf
  · refine j_iconst (q := 8) (-1) h dX7_chain_7 ki_m1 rfl ?_
    exact j_iret h dX7_chain_8 hf
theorem ct_X7_chain (l : Launch) (D : va_G) (T : TT) {K : KT} {P : PT} {l0 : Nat} {l1 : Int32} {V : VT} {res : Int32 × VT} (hf : f_X7_chain K P l0 l1 V = some res) : CT l D T yX7_chain cX7_chain 2 (some .int) rm_X7_chain K P V [.ref l0, .int l1] (some (.int res.1)) res.2 :=
  fun _ => CT_of pn_X7 (cat_a (cat_i cat_0)) (Nat.le_of_ble_eq_true rfl) [some (.ref l0), some (.int l1)] rfl (fun _ _ _ h => w_X7_chain_0 h hf)
/-! QuotedLayersModel.unchain()I -/
def rm_X7_unchain : Room := { frames := 0, cells := 0, slots := 0, locals := 0 }
def f_X7_unchain (K : KT) (P : PT) (l0 : Nat) (V : VT) : Option (Int32 × VT) :=
  gI K V l0 5 7 fun x1 => if x1 = 0 then (some ((-5 : Int32), V)) else (gI K V l0 5 7 fun x2 => sI K V l0 5 7 (x2 - ((1 : Int32))) fun V3 => gI K V3 l0 5 7 fun x4 => some (x4, V3))
set_option maxRecDepth 20000 in
theorem w_X7_unchain_0 {g : GT} {K : KT} {P : PT} {res : Int32 × VT} (h : OK g RX7 cX7_unchain 1 (some .int)) {l0 : Nat} {V : VT} (hf : f_X7_unchain K P l0 V = some res) : J g rm_X7_unchain (QF g (some (.int res.1)) K P res.2 0 0) 1 K P V 0 0 0 [some (.ref l0)] [] := by
  rw [f_X7_unchain] at hf
  refine j_aload_n (q := 1) h dX7_unchain_0 rfl rfl ?_
  refine j_gI (q := 4) h uin_X7 rfl rfl (by decide) rfl fl_X7_84 dX7_unchain_1 rfl hf (fun hf => ?_)
  refine j_if_ne (q := 7) 10 h dX7_unchain_4 (by decide) rfl hf (fun hf => ?_) (fun hf => ?_)
  · refine j_aload_n (q := 11) h dX7_unchain_10 rfl rfl ?_
    refine j_dup (q := 12) h dX7_unchain_11 rfl rfl ?_
    refine j_gI (q := 15) h uin_X7 rfl rfl (by decide) rfl fl_X7_84 dX7_unchain_12 rfl hf (fun hf => ?_)
    refine j_iconst (q := 16) (1) h dX7_unchain_15 ki_1 rfl ?_
    refine j_isub (q := 17) h dX7_unchain_16 rfl ?_
    refine j_sI (q := 20) h tyX7 tyX7_ok nmX7 uin_X7 rfl rfl (by decide) rfl rfl (by decide +kernel) fl_X7_84 dX7_unchain_17 rfl hf (fun hf => ?_)
    refine j_aload_n (q := 21) h dX7_unchain_20 rfl rfl ?_
    refine j_gI (q := 24) h uin_X7 rfl rfl (by decide) rfl fl_X7_84 dX7_unchain_21 rfl hf (fun hf => ?_)
    exact j_iret h dX7_unchain_24 hf
  · refine j_bipush (q := 9) (-5) h dX7_unchain_7 kb_m5 rfl ?_
    exact j_iret h dX7_unchain_9 hf
theorem ct_X7_unchain (l : Launch) (D : va_G) (T : TT) {K : KT} {P : PT} {l0 : Nat} {V : VT} {res : Int32 × VT} (hf : f_X7_unchain K P l0 V = some res) : CT l D T yX7_unchain cX7_unchain 1 (some .int) rm_X7_unchain K P V [.ref l0] (some (.int res.1)) res.2 :=
  fun _ => CT_of pn_X7 (cat_a cat_0) (Nat.le_of_ble_eq_true rfl) [some (.ref l0)] rfl (fun _ _ _ h => w_X7_unchain_0 h hf)
/-! QuotedLayersModel.text()I -/
def rm_X7_text : Room := { frames := 1, cells := 0, slots := 0, locals := 22 }
theorem rf_X7_text_X7_in : RF rm_X7_in rm_X7_text 3 := ⟨⟨by decide, by decide⟩, rfl, rfl⟩
def f_X7_text_26 (K : KT) (P : PT) : Nat → Nat → Int32 → VT → Option (Int32 × VT)
  | 0, _, _, _ => none
  | n + 1, l0, l1, V => gI K V l0 5 0 fun x1 => if l1 < x1 then (gR K P l0 5 10 fun b4 => gR K P l0 5 1 fun b5 => aI K V 0 b5 l1 fun x6 => sA K V b4 l1 x6 fun V7 => (f_X7_text_26 K P n) l0 (l1 + (1 : Int32)) V7) else (sI K V l0 5 0 ((0 : Int32)) fun V2 => gI K V2 l0 5 9 fun x3 => some (x3, V2))
def f_X7_text (K : KT) (P : PT) (l0 : Nat) (V : VT) : Option (Int32 × VT) :=
  gI K V l0 5 0 fun x1 => cS (f_X7_in K P x1 ((1 : Int32)) ((12 : Int32)) V) fun x3 V2 => if x3 = 0 then (some ((-5 : Int32), V2)) else (gI K V2 l0 5 0 fun x4 => sI K V2 l0 5 9 x4 fun V5 => f_X7_text_26 K P FU l0 ((0 : Int32)) V5)
set_option maxRecDepth 20000 in
theorem w_X7_text_26 {g : GT} {K : KT} {P : PT} {res : Int32 × VT} (h : OK g RX7 cX7_text 2 (some .int)) : ∀ (n : Nat) (l0 : Nat) (l1 : Int32) (V : VT), f_X7_text_26 K P n l0 l1 V = some res → J g rm_X7_text (QF g (some (.int res.1)) K P res.2 0 0) 2 K P V 0 0 26 [some (.ref l0), some (.int l1)] [] := by
  intro n
  induction n with
  | zero => intro l0 l1 V hf; rw [f_X7_text_26] at hf; cases hf
  | succ n ih =>
    intro l0 l1 V hf
    rw [f_X7_text_26] at hf
    refine j_iload_n (q := 27) h dX7_text_26 rfl rfl ?_
    refine j_aload_n (q := 28) h dX7_text_27 rfl rfl ?_
    refine j_gI (q := 31) h uin_X7 rfl rfl (by decide) rfl fl_X7_67 dX7_text_28 rfl hf (fun hf => ?_)
    refine j_icmp_ge (q := 34) 52 h dX7_text_31 (by decide) rfl hf (fun hf => ?_) (fun hf => ?_)
    · refine j_aload_n (q := 53) h dX7_text_52 rfl rfl ?_
      refine j_iconst (q := 54) (0) h dX7_text_53 ki_0 rfl ?_
      refine j_sI (q := 57) h tyX7 tyX7_ok nmX7 uin_X7 rfl rfl (by decide) rfl rfl (by decide +kernel) fl_X7_67 dX7_text_54 rfl hf (fun hf => ?_)
      refine j_aload_n (q := 58) h dX7_text_57 rfl rfl ?_
      refine j_gI (q := 61) h uin_X7 rfl rfl (by decide) rfl fl_X7_31 dX7_text_58 rfl hf (fun hf => ?_)
      exact j_iret h dX7_text_61 hf
    · refine j_aload_n (q := 35) h dX7_text_34 rfl rfl ?_
      refine j_gR (q := 38) h uin_X7 rfl rfl (by decide) rfl fl_X7_35 dX7_text_35 rfl hf (fun b4 hf => ?_)
      refine j_iload_n (q := 39) h dX7_text_38 rfl rfl ?_
      refine j_aload_n (q := 40) h dX7_text_39 rfl rfl ?_
      refine j_gR (q := 43) h uin_X7 rfl rfl (by decide) rfl fl_X7_7 dX7_text_40 rfl hf (fun b5 hf => ?_)
      refine j_iload_n (q := 44) h dX7_text_43 rfl rfl ?_
      refine j_iald (q := 45) h dX7_text_44 rfl hf (fun hf => ?_)
      refine j_iast (q := 46) h dX7_text_45 rfl hf (fun hf => ?_)
      refine j_iinc (q := 49) _ [_, _] h dX7_text_46 rfl (by decide) rfl (kc_1 _) rfl rfl ?_
      refine j_goto 26 h dX7_text_49 (by decide) ?_
      exact j_sub (lsub_s (lsub_s lsub_0)) (ih _ _ _ hf)
set_option maxRecDepth 20000 in
theorem w_X7_text_0 {g : GT} {K : KT} {P : PT} {res : Int32 × VT} (h : OK g RX7 cX7_text 2 (some .int)) {l0 : Nat} {V : VT} (hf : f_X7_text K P l0 V = some res) : J g rm_X7_text (QF g (some (.int res.1)) K P res.2 0 0) 2 K P V 0 0 0 [some (.ref l0), none] [] := by
  rw [f_X7_text] at hf
  refine j_aload_n (q := 1) h dX7_text_0 rfl rfl ?_
  refine j_gI (q := 4) h uin_X7 rfl rfl (by decide) rfl fl_X7_67 dX7_text_1 rfl hf (fun hf => ?_)
  refine j_iconst (q := 5) (1) h dX7_text_4 ki_1 rfl ?_
  refine j_bipush (q := 7) (12) h dX7_text_5 kb_12 rfl ?_
  refine j_cSi (q := 10) (As := [.int _, .int _, .int _]) h rfl hf (fun _ hx => ct_X7_in _ _ _ hx) ml_X7_63 sw_X7_in rf_X7_text_X7_in ⟨Nat.zero_le _, Nat.zero_le _⟩ (Nat.le_of_ble_eq_true rfl) dX7_text_7 rfl (fun _ _ hf => ?_)
  refine j_if_ne (q := 13) 16 h dX7_text_10 (by decide) rfl hf (fun hf => ?_) (fun hf => ?_)
  · refine j_aload_n (q := 17) h dX7_text_16 rfl rfl ?_
    refine j_aload_n (q := 18) h dX7_text_17 rfl rfl ?_
    refine j_gI (q := 21) h uin_X7 rfl rfl (by decide) rfl fl_X7_67 dX7_text_18 rfl hf (fun hf => ?_)
    refine j_sI (q := 24) h tyX7 tyX7_ok nmX7 uin_X7 rfl rfl (by decide) rfl rfl (by decide +kernel) fl_X7_31 dX7_text_21 rfl hf (fun hf => ?_)
    refine j_iconst (q := 25) (0) h dX7_text_24 ki_0 rfl ?_
    refine j_istore_n (q := 26) [_, _] h dX7_text_25 rfl (by decide) rfl rfl ?_
    exact j_sub (lsub_s (lsub_s lsub_0)) (w_X7_text_26 h FU _ _ _ hf)
  · refine j_bipush (q := 15) (-5) h dX7_text_13 kb_m5 rfl ?_
    exact j_iret h dX7_text_15 hf
theorem ct_X7_text (l : Launch) (D : va_G) (T : TT) {K : KT} {P : PT} {l0 : Nat} {V : VT} {res : Int32 × VT} (hf : f_X7_text K P l0 V = some res) : CT l D T yX7_text cX7_text 2 (some .int) rm_X7_text K P V [.ref l0] (some (.int res.1)) res.2 :=
  fun _ => CT_of pn_X7 (cat_a cat_0) (Nat.le_of_ble_eq_true rfl) [some (.ref l0), none] rfl (fun _ _ _ h => w_X7_text_0 h hf)
/-! QuotedLayersModel.hasMark(I)Z -/
def rm_X7_hasMark : Room := { frames := 0, cells := 0, slots := 0, locals := 0 }
def f_X7_hasMark (K : KT) (P : PT) (l0 : Nat) (l1 : Int32) (V : VT) : Option (Int32 × VT) :=
  gR K P l0 5 2 fun b1 => aI K V 0 b1 l1 fun x2 => if x2 = ((45 : Int32)) then (rB ((0 : Int32)) V) else (rB ((1 : Int32)) V)
set_option maxRecDepth 20000 in
theorem w_X7_hasMark_0 {g : GT} {K : KT} {P : PT} {res : Int32 × VT} (h : OK g RX7 cX7_hasMark 2 (some .boolean)) {l0 : Nat} {l1 : Int32} {V : VT} (hf : f_X7_hasMark K P l0 l1 V = some res) : J g rm_X7_hasMark (QF g (some (.int res.1)) K P res.2 0 0) 2 K P V 0 0 0 [some (.ref l0), some (.int l1)] [] := by
  rw [f_X7_hasMark] at hf
  refine j_aload_n (q := 1) h dX7_hasMark_0 rfl rfl ?_
  refine j_gR (q := 4) h uin_X7 rfl rfl (by decide) rfl fl_X7_13 dX7_hasMark_1 rfl hf (fun b1 hf => ?_)
  refine j_iload_n (q := 5) h dX7_hasMark_4 rfl rfl ?_
  refine j_iald (q := 6) h dX7_hasMark_5 rfl hf (fun hf => ?_)
  refine j_bipush (q := 8) (45) h dX7_hasMark_6 kb_45 rfl ?_
  refine j_icmp_eq (q := 11) 15 h dX7_hasMark_8 (by decide) rfl hf (fun hf => ?_) (fun hf => ?_)
  · refine j_iconst (q := 16) (0) h dX7_hasMark_15 ki_0 rfl ?_
    exact j_zret h dX7_hasMark_16 hf
  · refine j_iconst (q := 12) (1) h dX7_hasMark_11 ki_1 rfl ?_
    refine j_goto 16 h dX7_hasMark_12 (by decide) ?_
    exact j_zret h dX7_hasMark_16 hf
theorem ct_X7_hasMark (l : Launch) (D : va_G) (T : TT) {K : KT} {P : PT} {l0 : Nat} {l1 : Int32} {V : VT} {res : Int32 × VT} (hf : f_X7_hasMark K P l0 l1 V = some res) : CT l D T yX7_hasMark cX7_hasMark 2 (some .boolean) rm_X7_hasMark K P V [.ref l0, .int l1] (some (.int res.1)) res.2 :=
  fun _ => CT_of pn_X7 (cat_a (cat_i cat_0)) (Nat.le_of_ble_eq_true rfl) [some (.ref l0), some (.int l1)] rfl (fun _ _ _ h => w_X7_hasMark_0 h hf)
/-! QuotedLayersModel.isHeld(II)Z -/
def rm_X7_isHeld : Room := { frames := 0, cells := 0, slots := 0, locals := 0 }
def f_X7_isHeld_41 (K : KT) (P : PT) (k5 : Nat → Int32 → Int32 → Int32 → Int32 → VT → Option (Int32 × VT)) (l0 : Nat) (l1 : Int32) (l2 : Int32) (l4 : Int32) (s0 : Int32) (V : VT) : Option (Int32 × VT) :=
  k5 l0 l1 l2 s0 (l4 + (1 : Int32)) V
def f_X7_isHeld_36 (K : KT) (P : PT) (k5 : Nat → Int32 → Int32 → Int32 → Int32 → VT → Option (Int32 × VT)) (l0 : Nat) (l1 : Int32) (l2 : Int32) (l4 : Int32) (V : VT) : Option (Int32 × VT) :=
  f_X7_isHeld_41 K P k5 l0 l1 l2 l4 ((1 : Int32)) V
def f_X7_isHeld_5 (K : KT) (P : PT) : Nat → Nat → Int32 → Int32 → Int32 → Int32 → VT → Option (Int32 × VT)
  | 0, _, _, _, _, _, _ => none
  | n + 1, l0, l1, l2, l3, l4, V => gR K P l0 5 5 fun b1 => aI K V 0 b1 l1 fun x2 => if l4 < x2 then (if l3 = 0 then (gR K P l0 5 6 fun b3 => aI K V 0 b3 ((((6 : Int32)) * l1) + l4) fun x4 => if x4 = l2 then (f_X7_isHeld_36 K P (f_X7_isHeld_5 K P n) l0 l1 l2 l4 V) else (f_X7_isHeld_41 K P (f_X7_isHeld_5 K P n) l0 l1 l2 l4 ((0 : Int32)) V)) else (f_X7_isHeld_36 K P (f_X7_isHeld_5 K P n) l0 l1 l2 l4 V)) else (rB l3 V)
def f_X7_isHeld (K : KT) (P : PT) (l0 : Nat) (l1 : Int32) (l2 : Int32) (V : VT) : Option (Int32 × VT) :=
  f_X7_isHeld_5 K P FU l0 l1 l2 ((0 : Int32)) ((0 : Int32)) V
set_option maxRecDepth 20000 in
theorem w_X7_isHeld_41 {g : GT} {K : KT} {P : PT} {res : Int32 × VT} (h : OK g RX7 cX7_isHeld 5 (some .boolean)) {k5 : Nat → Int32 → Int32 → Int32 → Int32 → VT → Option (Int32 × VT)} (hk5 : ∀ (l0 : Nat) (l1 : Int32) (l2 : Int32) (l3 : Int32) (l4 : Int32) (V : VT), k5 l0 l1 l2 l3 l4 V = some res → J g rm_X7_isHeld (QF g (some (.int res.1)) K P res.2 0 0) 5 K P V 0 0 5 [some (.ref l0), some (.int l1), some (.int l2), some (.int l3), some (.int l4)] []) {l0 : Nat} {l1 : Int32} {l2 : Int32} {l4 : Int32} {s0 : Int32} {V : VT} (hf : f_X7_isHeld_41 K P k5 l0 l1 l2 l4 s0 V = some res) : J g rm_X7_isHeld (QF g (some (.int res.1)) K P res.2 0 0) 5 K P V 0 0 41 [some (.ref l0), some (.int l1), some (.int l2), none, some (.int l4)] [.int s0] := by
  rw [f_X7_isHeld_41] at hf
  refine j_istore_n (q := 42) [_, _, _, _, _] h dX7_isHeld_41 rfl (by decide) rfl rfl ?_
  refine j_iinc (q := 45) _ [_, _, _, _, _] h dX7_isHeld_42 rfl (by decide) rfl (kc_1 _) rfl rfl ?_
  refine j_goto 5 h dX7_isHeld_45 (by decide) ?_
  exact j_sub (lsub_s (lsub_s (lsub_s (lsub_s (lsub_s lsub_0))))) (hk5 _ _ _ _ _ _ hf)
set_option maxRecDepth 20000 in
theorem w_X7_isHeld_36 {g : GT} {K : KT} {P : PT} {res : Int32 × VT} (h : OK g RX7 cX7_isHeld 5 (some .boolean)) {k5 : Nat → Int32 → Int32 → Int32 → Int32 → VT → Option (Int32 × VT)} (hk5 : ∀ (l0 : Nat) (l1 : Int32) (l2 : Int32) (l3 : Int32) (l4 : Int32) (V : VT), k5 l0 l1 l2 l3 l4 V = some res → J g rm_X7_isHeld (QF g (some (.int res.1)) K P res.2 0 0) 5 K P V 0 0 5 [some (.ref l0), some (.int l1), some (.int l2), some (.int l3), some (.int l4)] []) {l0 : Nat} {l1 : Int32} {l2 : Int32} {l4 : Int32} {V : VT} (hf : f_X7_isHeld_36 K P k5 l0 l1 l2 l4 V = some res) : J g rm_X7_isHeld (QF g (some (.int res.1)) K P res.2 0 0) 5 K P V 0 0 36 [some (.ref l0), some (.int l1), some (.int l2), none, some (.int l4)] [] := by
  rw [f_X7_isHeld_36] at hf
  refine j_iconst (q := 37) (1) h dX7_isHeld_36 ki_1 rfl ?_
  refine j_goto 41 h dX7_isHeld_37 (by decide) ?_
  exact j_sub (lsub_s (lsub_s (lsub_s (lsub_n (lsub_s lsub_0))))) (w_X7_isHeld_41 h hk5 hf)
set_option maxRecDepth 20000 in
theorem w_X7_isHeld_5 {g : GT} {K : KT} {P : PT} {res : Int32 × VT} (h : OK g RX7 cX7_isHeld 5 (some .boolean)) : ∀ (n : Nat) (l0 : Nat) (l1 : Int32) (l2 : Int32) (l3 : Int32) (l4 : Int32) (V : VT), f_X7_isHeld_5 K P n l0 l1 l2 l3 l4 V = some res → J g rm_X7_isHeld (QF g (some (.int res.1)) K P res.2 0 0) 5 K P V 0 0 5 [some (.ref l0), some (.int l1), some (.int l2), some (.int l3), some (.int l4)] [] := by
  intro n
  induction n with
  | zero => intro l0 l1 l2 l3 l4 V hf; rw [f_X7_isHeld_5] at hf; cases hf
  | succ n ih =>
    intro l0 l1 l2 l3 l4 V hf
    rw [f_X7_isHeld_5] at hf
    refine j_iload (q := 7) h dX7_isHeld_5 rfl rfl ?_
    refine j_aload_n (q := 8) h dX7_isHeld_7 rfl rfl ?_
    refine j_gR (q := 11) h uin_X7 rfl rfl (by decide) rfl fl_X7_22 dX7_isHeld_8 rfl hf (fun b1 hf => ?_)
    refine j_iload_n (q := 12) h dX7_isHeld_11 rfl rfl ?_
    refine j_iald (q := 13) h dX7_isHeld_12 rfl hf (fun hf => ?_)
    refine j_icmp_ge (q := 16) 48 h dX7_isHeld_13 (by decide) rfl hf (fun hf => ?_) (fun hf => ?_)
    · refine j_iload_n (q := 49) h dX7_isHeld_48 rfl rfl ?_
      exact j_zret h dX7_isHeld_49 hf
    · refine j_iload_n (q := 17) h dX7_isHeld_16 rfl rfl ?_
      refine j_if_ne (q := 20) 36 h dX7_isHeld_17 (by decide) rfl hf (fun hf => ?_) (fun hf => ?_)
      · exact j_sub (lsub_s (lsub_s (lsub_s (lsub_n (lsub_s lsub_0))))) (w_X7_isHeld_36 h ih hf)
      · refine j_aload_n (q := 21) h dX7_isHeld_20 rfl rfl ?_
        refine j_gR (q := 24) h uin_X7 rfl rfl (by decide) rfl fl_X7_25 dX7_isHeld_21 rfl hf (fun b3 hf => ?_)
        refine j_bipush (q := 26) (6) h dX7_isHeld_24 kb_6 rfl ?_
        refine j_iload_n (q := 27) h dX7_isHeld_26 rfl rfl ?_
        refine j_imul (q := 28) h dX7_isHeld_27 rfl ?_
        refine j_iload (q := 30) h dX7_isHeld_28 rfl rfl ?_
        refine j_iadd (q := 31) h dX7_isHeld_30 rfl ?_
        refine j_iald (q := 32) h dX7_isHeld_31 rfl hf (fun hf => ?_)
        refine j_iload_n (q := 33) h dX7_isHeld_32 rfl rfl ?_
        refine j_icmp_ne (q := 36) 40 h dX7_isHeld_33 (by decide) rfl hf (fun hf => ?_) (fun hf => ?_)
        · refine j_iconst (q := 41) (0) h dX7_isHeld_40 ki_0 rfl ?_
          exact j_sub (lsub_s (lsub_s (lsub_s (lsub_n (lsub_s lsub_0))))) (w_X7_isHeld_41 h ih hf)
        · exact j_sub (lsub_s (lsub_s (lsub_s (lsub_n (lsub_s lsub_0))))) (w_X7_isHeld_36 h ih hf)
set_option maxRecDepth 20000 in
theorem w_X7_isHeld_0 {g : GT} {K : KT} {P : PT} {res : Int32 × VT} (h : OK g RX7 cX7_isHeld 5 (some .boolean)) {l0 : Nat} {l1 : Int32} {l2 : Int32} {V : VT} (hf : f_X7_isHeld K P l0 l1 l2 V = some res) : J g rm_X7_isHeld (QF g (some (.int res.1)) K P res.2 0 0) 5 K P V 0 0 0 [some (.ref l0), some (.int l1), some (.int l2), none, none] [] := by
  rw [f_X7_isHeld] at hf
  refine j_iconst (q := 1) (0) h dX7_isHeld_0 ki_0 rfl ?_
  refine j_istore_n (q := 2) [_, _, _, _, _] h dX7_isHeld_1 rfl (by decide) rfl rfl ?_
  refine j_iconst (q := 3) (0) h dX7_isHeld_2 ki_0 rfl ?_
  refine j_istore (q := 5) [_, _, _, _, _] h dX7_isHeld_3 rfl (by decide) rfl rfl ?_
  exact j_sub (lsub_s (lsub_s (lsub_s (lsub_s (lsub_s lsub_0))))) (w_X7_isHeld_5 h FU _ _ _ _ _ _ hf)
theorem ct_X7_isHeld (l : Launch) (D : va_G) (T : TT) {K : KT} {P : PT} {l0 : Nat} {l1 : Int32} {l2 : Int32} {V : VT} {res : Int32 × VT} (hf : f_X7_isHeld K P l0 l1 l2 V = some res) : CT l D T yX7_isHeld cX7_isHeld 5 (some .boolean) rm_X7_isHeld K P V [.ref l0, .int l1, .int l2] (some (.int res.1)) res.2 :=
  fun _ => CT_of pn_X7 (cat_a (cat_i (cat_i cat_0))) (Nat.le_of_ble_eq_true rfl) [some (.ref l0), some (.int l1), some (.int l2), none, none] rfl (fun _ _ _ h => w_X7_isHeld_0 h hf)
/-! QuotedLayersModel.isMasked(II)Z -/
def rm_X7_isMasked : Room := { frames := 1, cells := 0, slots := 0, locals := 24 }
theorem rf_X7_isMasked_X7_hasMark : RF rm_X7_hasMark rm_X7_isMasked 2 := ⟨⟨by decide, by decide⟩, rfl, rfl⟩
theorem rf_X7_isMasked_X7_isHeld : RF rm_X7_isHeld rm_X7_isMasked 5 := ⟨⟨by decide, by decide⟩, rfl, rfl⟩
def f_X7_isMasked_37 (K : KT) (P : PT)  (V : VT) : Option (Int32 × VT) :=
  rB ((1 : Int32)) V
def f_X7_isMasked_18 (K : KT) (P : PT) (l0 : Nat) (l1 : Int32) (l2 : Int32) (V : VT) : Option (Int32 × VT) :=
  gR K P l0 5 4 fun b1 => aI K V 0 b1 l1 fun x2 => if l2 = x2 then (f_X7_isMasked_37 K P V) else (cV K l0 5 (f_X7_isHeld K P l0 l1 l2 V) fun x4 V3 => if x4 = 0 then (rB ((0 : Int32)) V3) else (f_X7_isMasked_37 K P V3))
def f_X7_isMasked (K : KT) (P : PT) (l0 : Nat) (l1 : Int32) (l2 : Int32) (V : VT) : Option (Int32 × VT) :=
  cV K l0 5 (f_X7_hasMark K P l0 l1 V) fun x2 V1 => if x2 = 0 then (f_X7_isMasked_18 K P l0 l1 l2 V1) else (gR K P l0 5 2 fun b3 => aI K V1 0 b3 l1 fun x4 => if l2 = x4 then (f_X7_isMasked_37 K P V1) else (f_X7_isMasked_18 K P l0 l1 l2 V1))
set_option maxRecDepth 20000 in
theorem w_X7_isMasked_37 {g : GT} {K : KT} {P : PT} {res : Int32 × VT} (h : OK g RX7 cX7_isMasked 3 (some .boolean))  {V : VT} (hf : f_X7_isMasked_37 K P  V = some res) : J g rm_X7_isMasked (QF g (some (.int res.1)) K P res.2 0 0) 3 K P V 0 0 37 [none, none, none] [] := by
  rw [f_X7_isMasked_37] at hf
  refine j_iconst (q := 38) (1) h dX7_isMasked_37 ki_1 rfl ?_
  refine j_goto 42 h dX7_isMasked_38 (by decide) ?_
  exact j_zret h dX7_isMasked_42 hf
set_option maxRecDepth 20000 in
theorem w_X7_isMasked_18 {g : GT} {K : KT} {P : PT} {res : Int32 × VT} (h : OK g RX7 cX7_isMasked 3 (some .boolean)) {l0 : Nat} {l1 : Int32} {l2 : Int32} {V : VT} (hf : f_X7_isMasked_18 K P l0 l1 l2 V = some res) : J g rm_X7_isMasked (QF g (some (.int res.1)) K P res.2 0 0) 3 K P V 0 0 18 [some (.ref l0), some (.int l1), some (.int l2)] [] := by
  rw [f_X7_isMasked_18] at hf
  refine j_iload_n (q := 19) h dX7_isMasked_18 rfl rfl ?_
  refine j_aload_n (q := 20) h dX7_isMasked_19 rfl rfl ?_
  refine j_gR (q := 23) h uin_X7 rfl rfl (by decide) rfl fl_X7_19 dX7_isMasked_20 rfl hf (fun b1 hf => ?_)
  refine j_iload_n (q := 24) h dX7_isMasked_23 rfl rfl ?_
  refine j_iald (q := 25) h dX7_isMasked_24 rfl hf (fun hf => ?_)
  refine j_icmp_eq (q := 28) 37 h dX7_isMasked_25 (by decide) rfl hf (fun hf => ?_) (fun hf => ?_)
  · exact j_sub (lsub_n (lsub_n (lsub_n lsub_0))) (w_X7_isMasked_37 h hf)
  · refine j_aload_n (q := 29) h dX7_isMasked_28 rfl rfl ?_
    refine j_iload_n (q := 30) h dX7_isMasked_29 rfl rfl ?_
    refine j_iload_n (q := 31) h dX7_isMasked_30 rfl rfl ?_
    refine j_cVi (q := 34) (As := [.int _, .int _]) h rfl hf (fun _ hx => ct_X7_isHeld _ _ _ hx) ml_X7_90 vw_X7_isHeld rf_X7_isMasked_X7_isHeld ⟨Nat.zero_le _, Nat.zero_le _⟩ (Nat.le_of_ble_eq_true rfl) dX7_isMasked_31 rfl (fun _ _ hf => ?_)
    refine j_if_eq (q := 37) 41 h dX7_isMasked_34 (by decide) rfl hf (fun hf => ?_) (fun hf => ?_)
    · refine j_iconst (q := 42) (0) h dX7_isMasked_41 ki_0 rfl ?_
      exact j_zret h dX7_isMasked_42 hf
    · exact j_sub (lsub_n (lsub_n (lsub_n lsub_0))) (w_X7_isMasked_37 h hf)
set_option maxRecDepth 20000 in
theorem w_X7_isMasked_0 {g : GT} {K : KT} {P : PT} {res : Int32 × VT} (h : OK g RX7 cX7_isMasked 3 (some .boolean)) {l0 : Nat} {l1 : Int32} {l2 : Int32} {V : VT} (hf : f_X7_isMasked K P l0 l1 l2 V = some res) : J g rm_X7_isMasked (QF g (some (.int res.1)) K P res.2 0 0) 3 K P V 0 0 0 [some (.ref l0), some (.int l1), some (.int l2)] [] := by
  rw [f_X7_isMasked] at hf
  refine j_aload_n (q := 1) h dX7_isMasked_0 rfl rfl ?_
  refine j_iload_n (q := 2) h dX7_isMasked_1 rfl rfl ?_
  refine j_cVi (q := 5) (As := [.int _]) h rfl hf (fun _ hx => ct_X7_hasMark _ _ _ hx) ml_X7_87 vw_X7_hasMark rf_X7_isMasked_X7_hasMark ⟨Nat.zero_le _, Nat.zero_le _⟩ (Nat.le_of_ble_eq_true rfl) dX7_isMasked_2 rfl (fun _ _ hf => ?_)
  refine j_if_eq (q := 8) 18 h dX7_isMasked_5 (by decide) rfl hf (fun hf => ?_) (fun hf => ?_)
  · exact j_sub (lsub_s (lsub_s (lsub_s lsub_0))) (w_X7_isMasked_18 h hf)
  · refine j_iload_n (q := 9) h dX7_isMasked_8 rfl rfl ?_
    refine j_aload_n (q := 10) h dX7_isMasked_9 rfl rfl ?_
    refine j_gR (q := 13) h uin_X7 rfl rfl (by decide) rfl fl_X7_13 dX7_isMasked_10 rfl hf (fun b3 hf => ?_)
    refine j_iload_n (q := 14) h dX7_isMasked_13 rfl rfl ?_
    refine j_iald (q := 15) h dX7_isMasked_14 rfl hf (fun hf => ?_)
    refine j_icmp_eq (q := 18) 37 h dX7_isMasked_15 (by decide) rfl hf (fun hf => ?_) (fun hf => ?_)
    · exact j_sub (lsub_n (lsub_n (lsub_n lsub_0))) (w_X7_isMasked_37 h hf)
    · exact j_sub (lsub_s (lsub_s (lsub_s lsub_0))) (w_X7_isMasked_18 h hf)
theorem ct_X7_isMasked (l : Launch) (D : va_G) (T : TT) {K : KT} {P : PT} {l0 : Nat} {l1 : Int32} {l2 : Int32} {V : VT} {res : Int32 × VT} (hf : f_X7_isMasked K P l0 l1 l2 V = some res) : CT l D T yX7_isMasked cX7_isMasked 3 (some .boolean) rm_X7_isMasked K P V [.ref l0, .int l1, .int l2] (some (.int res.1)) res.2 :=
  fun _ => CT_of pn_X7 (cat_a (cat_i (cat_i cat_0))) (Nat.le_of_ble_eq_true rfl) [some (.ref l0), some (.int l1), some (.int l2)] rfl (fun _ _ _ h => w_X7_isMasked_0 h hf)
/-! QuotedLayersModel.digit(I)I -/
def rm_X7_digit : Room := { frames := 0, cells := 0, slots := 0, locals := 0 }
def f_X7_digit (K : KT) (P : PT) (l0 : Int32) (V : VT) : Option (Int32 × VT) :=
  if l0 < ((10 : Int32)) then (some (((48 : Int32)) + l0, V)) else (some ((((97 : Int32)) + l0) - ((10 : Int32)), V))
set_option maxRecDepth 20000 in
theorem w_X7_digit_0 {g : GT} {K : KT} {P : PT} {res : Int32 × VT} (h : OK g RX7 cX7_digit 1 (some .int)) {l0 : Int32} {V : VT} (hf : f_X7_digit K P l0 V = some res) : J g rm_X7_digit (QF g (some (.int res.1)) K P res.2 0 0) 1 K P V 0 0 0 [some (.int l0)] [] := by
  rw [f_X7_digit] at hf
  refine j_iload_n (q := 1) h dX7_digit_0 rfl rfl ?_
  refine j_bipush (q := 3) (10) h dX7_digit_1 kb_10 rfl ?_
  refine j_icmp_ge (q := 6) 13 h dX7_digit_3 (by decide) rfl hf (fun hf => ?_) (fun hf => ?_)
  · refine j_bipush (q := 15) (97) h dX7_digit_13 kb_97 rfl ?_
    refine j_iload_n (q := 16) h dX7_digit_15 rfl rfl ?_
    refine j_iadd (q := 17) h dX7_digit_16 rfl ?_
    refine j_bipush (q := 19) (10) h dX7_digit_17 kb_10 rfl ?_
    refine j_isub (q := 20) h dX7_digit_19 rfl ?_
    exact j_iret h dX7_digit_20 hf
  · refine j_bipush (q := 8) (48) h dX7_digit_6 kb_48 rfl ?_
    refine j_iload_n (q := 9) h dX7_digit_8 rfl rfl ?_
    refine j_iadd (q := 10) h dX7_digit_9 rfl ?_
    refine j_goto 20 h dX7_digit_10 (by decide) ?_
    exact j_iret h dX7_digit_20 hf
theorem ct_X7_digit (l : Launch) (D : va_G) (T : TT) {K : KT} {P : PT} {l0 : Int32} {V : VT} {res : Int32 × VT} (hf : f_X7_digit K P l0 V = some res) : CT l D T yX7_digit cX7_digit 1 (some .int) rm_X7_digit K P V [.int l0] (some (.int res.1)) res.2 :=
  fun _ => CT_of pn_X7 (cat_i cat_0) (Nat.le_of_ble_eq_true rfl) [some (.int l0)] rfl (fun _ _ _ h => w_X7_digit_0 h hf)
/-! QuotedLayersModel.put(IZ)I -/
def rm_X7_put : Room := { frames := 2, cells := 0, slots := 0, locals := 46 }
theorem rf_X7_put_X7_digit : RF rm_X7_digit rm_X7_put 1 := ⟨⟨by decide, by decide⟩, rfl, rfl⟩
theorem rf_X7_put_X7_hasMark : RF rm_X7_hasMark rm_X7_put 2 := ⟨⟨by decide, by decide⟩, rfl, rfl⟩
theorem rf_X7_put_X7_isMasked : RF rm_X7_isMasked rm_X7_put 3 := ⟨⟨by decide, by decide⟩, rfl, rfl⟩
def f_X7_put_223 (K : KT) (P : PT) : Nat → Nat → Int32 → Int32 → VT → Option (Int32 × VT)
  | 0, _, _, _, _ => none
  | n + 1, l0, l3, l4, V => if l4 < l3 then (gR K P l0 5 12 fun b2 => gR K P l0 5 13 fun b3 => aI K V 0 b3 l4 fun x4 => sA K V b2 l4 x4 fun V5 => (f_X7_put_223 K P n) l0 l3 (l4 + (1 : Int32)) V5) else (sI K V l0 5 11 l3 fun V1 => some ((0 : Int32), V1))
def f_X7_put_210 (K : KT) (P : PT) (l0 : Nat) (l3 : Int32) (V : VT) : Option (Int32 × VT) :=
  if ((400 : Int32)) < l3 then (some ((-7 : Int32), V)) else (f_X7_put_223 K P FU l0 l3 ((0 : Int32)) V)
def f_X7_put_181 (K : KT) (P : PT) (k28 : Nat → Int32 → Int32 → Int32 → Int32 → VT → Option (Int32 × VT)) (l0 : Nat) (l1 : Int32) (l2 : Int32) (l3 : Int32) (l4 : Int32) (V : VT) : Option (Int32 × VT) :=
  k28 l0 l1 l2 l3 (l4 + (1 : Int32)) V
def f_X7_put_170 (K : KT) (P : PT) (k28 : Nat → Int32 → Int32 → Int32 → Int32 → VT → Option (Int32 × VT)) (l0 : Nat) (l1 : Int32) (l2 : Int32) (l3 : Int32) (l4 : Int32) (l5 : Int32) (V : VT) : Option (Int32 × VT) :=
  gR K P l0 5 13 fun b1 => sA K V b1 l3 l5 fun V2 => f_X7_put_181 K P k28 l0 l1 l2 (l3 + (1 : Int32)) l4 V2
def f_X7_put_119 (K : KT) (P : PT) (k28 : Nat → Int32 → Int32 → Int32 → Int32 → VT → Option (Int32 × VT)) (l0 : Nat) (l1 : Int32) (l2 : Int32) (l3 : Int32) (l4 : Int32) (l5 : Int32) (l6 : Int32) (V : VT) : Option (Int32 × VT) :=
  if l6 = 0 then (f_X7_put_170 K P k28 l0 l1 l2 l3 l4 l5 V) else (gR K P l0 5 3 fun b1 => aI K V 0 b1 l1 fun x2 => if x2 = ((3 : Int32)) then (gR K P l0 5 13 fun b3 => dG ((16 : Int32)) (cS (f_X7_digit K P (l5 / ((16 : Int32))) V) fun x5 V4 => sA K V4 b3 l3 x5 fun V6 => gR K P l0 5 13 fun b7 => dG ((16 : Int32)) (cS (f_X7_digit K P (l5 - l5 / ((16 : Int32)) * ((16 : Int32))) V6) fun x9 V8 => sA K V8 b7 (l3 + ((1 : Int32))) x9 fun V10 => f_X7_put_181 K P k28 l0 l1 l2 (l3 + (2 : Int32)) l4 V10))) else (f_X7_put_170 K P k28 l0 l1 l2 l3 l4 l5 V))
def f_X7_put_115 (K : KT) (P : PT) (k28 : Nat → Int32 → Int32 → Int32 → Int32 → VT → Option (Int32 × VT)) (l0 : Nat) (l1 : Int32) (l2 : Int32) (l3 : Int32) (l4 : Int32) (l5 : Int32) (l6 : Int32) (s0 : Nat) (s1 : Int32) (s2 : Int32) (V : VT) : Option (Int32 × VT) :=
  sA K V s0 s1 s2 fun V1 => f_X7_put_119 K P k28 l0 l1 l2 (l3 + (1 : Int32)) l4 l5 l6 V1
def f_X7_put_84 (K : KT) (P : PT) (k28 : Nat → Int32 → Int32 → Int32 → Int32 → VT → Option (Int32 × VT)) (l0 : Nat) (l1 : Int32) (l2 : Int32) (l3 : Int32) (l4 : Int32) (l5 : Int32) (l6 : Int32) (V : VT) : Option (Int32 × VT) :=
  if l6 = 0 then (f_X7_put_119 K P k28 l0 l1 l2 l3 l4 l5 l6 V) else (gR K P l0 5 13 fun b1 => gR K P l0 5 3 fun b2 => aI K V 0 b2 l1 fun x3 => if x3 = ((2 : Int32)) then (f_X7_put_115 K P k28 l0 l1 l2 l3 l4 l5 l6 b1 l3 l5 V) else (gR K P l0 5 4 fun b4 => aI K V 0 b4 l1 fun x5 => f_X7_put_115 K P k28 l0 l1 l2 l3 l4 l5 l6 b1 l3 x5 V))
def f_X7_put_65 (K : KT) (P : PT) (k28 : Nat → Int32 → Int32 → Int32 → Int32 → VT → Option (Int32 × VT)) (l0 : Nat) (l1 : Int32) (l2 : Int32) (l3 : Int32) (l4 : Int32) (l5 : Int32) (s0 : Int32) (V : VT) : Option (Int32 × VT) :=
  if s0 = 0 then (f_X7_put_84 K P k28 l0 l1 l2 l3 l4 l5 s0 V) else (gR K P l0 5 3 fun b1 => aI K V 0 b1 l1 fun x2 => if x2 = 0 then (some ((-5 : Int32), V)) else (f_X7_put_84 K P k28 l0 l1 l2 l3 l4 l5 s0 V))
def f_X7_put_64 (K : KT) (P : PT) (k28 : Nat → Int32 → Int32 → Int32 → Int32 → VT → Option (Int32 × VT)) (l0 : Nat) (l1 : Int32) (l2 : Int32) (l3 : Int32) (l4 : Int32) (l5 : Int32) (V : VT) : Option (Int32 × VT) :=
  f_X7_put_65 K P k28 l0 l1 l2 l3 l4 l5 ((0 : Int32)) V
def f_X7_put_28 (K : KT) (P : PT) : Nat → Nat → Int32 → Int32 → Int32 → Int32 → VT → Option (Int32 × VT)
  | 0, _, _, _, _, _, _ => none
  | n + 1, l0, l1, l2, l3, l4, V => gI K V l0 5 11 fun x1 => if l4 < x1 then (gR K P l0 5 12 fun b8 => aI K V 0 b8 l4 fun x9 => if l2 = 0 then (cV K l0 5 (f_X7_isMasked K P l0 l1 x9 V) fun x11 V10 => if x11 = 0 then (f_X7_put_64 K P (f_X7_put_28 K P n) l0 l1 l2 l3 l4 x9 V10) else (f_X7_put_65 K P (f_X7_put_28 K P n) l0 l1 l2 l3 l4 x9 ((1 : Int32)) V10)) else (f_X7_put_64 K P (f_X7_put_28 K P n) l0 l1 l2 l3 l4 x9 V)) else (cV K l0 5 (f_X7_hasMark K P l0 l1 V) fun x3 V2 => if x3 = 0 then (f_X7_put_210 K P l0 l3 V2) else (gR K P l0 5 13 fun b4 => gR K P l0 5 2 fun b5 => aI K V2 0 b5 l1 fun x6 => sA K V2 b4 l3 x6 fun V7 => f_X7_put_210 K P l0 (l3 + (1 : Int32)) V7))
def f_X7_put_25 (K : KT) (P : PT) (l0 : Nat) (l1 : Int32) (l2 : Int32) (l3 : Int32) (V : VT) : Option (Int32 × VT) :=
  f_X7_put_28 K P FU l0 l1 l2 l3 ((0 : Int32)) V
def f_X7_put (K : KT) (P : PT) (l0 : Nat) (l1 : Int32) (l2 : Int32) (V : VT) : Option (Int32 × VT) :=
  cV K l0 5 (f_X7_hasMark K P l0 l1 V) fun x2 V1 => if x2 = 0 then (f_X7_put_25 K P l0 l1 l2 ((0 : Int32)) V1) else (gR K P l0 5 13 fun b3 => gR K P l0 5 2 fun b4 => aI K V1 0 b4 l1 fun x5 => sA K V1 b3 ((0 : Int32)) x5 fun V6 => f_X7_put_25 K P l0 l1 l2 (((0 : Int32)) + (1 : Int32)) V6)
set_option maxRecDepth 20000 in
theorem w_X7_put_223 {g : GT} {K : KT} {P : PT} {res : Int32 × VT} (h : OK g RX7 cX7_put 7 (some .int)) : ∀ (n : Nat) (l0 : Nat) (l3 : Int32) (l4 : Int32) (V : VT), f_X7_put_223 K P n l0 l3 l4 V = some res → J g rm_X7_put (QF g (some (.int res.1)) K P res.2 0 0) 7 K P V 0 0 223 [some (.ref l0), none, none, some (.int l3), some (.int l4), none, none] [] := by
  intro n
  induction n with
  | zero => intro l0 l3 l4 V hf; rw [f_X7_put_223] at hf; cases hf
  | succ n ih =>
    intro l0 l3 l4 V hf
    rw [f_X7_put_223] at hf
    refine j_iload (q := 225) h dX7_put_223 rfl rfl ?_
    refine j_iload_n (q := 226) h dX7_put_225 rfl rfl ?_
    refine j_icmp_ge (q := 229) 249 h dX7_put_226 (by decide) rfl hf (fun hf => ?_) (fun hf => ?_)
    · refine j_aload_n (q := 250) h dX7_put_249 rfl rfl ?_
      refine j_iload_n (q := 251) h dX7_put_250 rfl rfl ?_
      refine j_sI (q := 254) h tyX7 tyX7_ok nmX7 uin_X7 rfl rfl (by decide) rfl rfl (by decide +kernel) fl_X7_94 dX7_put_251 rfl hf (fun hf => ?_)
      refine j_iconst (q := 255) (0) h dX7_put_254 ki_0 rfl ?_
      exact j_iret h dX7_put_255 hf
    · refine j_aload_n (q := 230) h dX7_put_229 rfl rfl ?_
      refine j_gR (q := 233) h uin_X7 rfl rfl (by decide) rfl fl_X7_38 dX7_put_230 rfl hf (fun b2 hf => ?_)
      refine j_iload (q := 235) h dX7_put_233 rfl rfl ?_
      refine j_aload_n (q := 236) h dX7_put_235 rfl rfl ?_
      refine j_gR (q := 239) h uin_X7 rfl rfl (by decide) rfl fl_X7_41 dX7_put_236 rfl hf (fun b3 hf => ?_)
      refine j_iload (q := 241) h dX7_put_239 rfl rfl ?_
      refine j_iald (q := 242) h dX7_put_241 rfl hf (fun hf => ?_)
      refine j_iast (q := 243) h dX7_put_242 rfl hf (fun hf => ?_)
      refine j_iinc (q := 246) _ [_, _, _, _, _, _, _] h dX7_put_243 rfl (by decide) rfl (kc_1 _) rfl rfl ?_
      refine j_goto 223 h dX7_put_246 (by decide) ?_
      exact j_sub (lsub_s (lsub_n (lsub_n (lsub_s (lsub_s (lsub_n (lsub_n lsub_0))))))) (ih _ _ _ _ hf)
set_option maxRecDepth 20000 in
theorem w_X7_put_210 {g : GT} {K : KT} {P : PT} {res : Int32 × VT} (h : OK g RX7 cX7_put 7 (some .int)) {l0 : Nat} {l3 : Int32} {V : VT} (hf : f_X7_put_210 K P l0 l3 V = some res) : J g rm_X7_put (QF g (some (.int res.1)) K P res.2 0 0) 7 K P V 0 0 210 [some (.ref l0), none, none, some (.int l3), none, none, none] [] := by
  rw [f_X7_put_210] at hf
  refine j_iload_n (q := 211) h dX7_put_210 rfl rfl ?_
  refine j_sipush (q := 214) (400) h dX7_put_211 ks_400 rfl ?_
  refine j_icmp_le (q := 217) 220 h dX7_put_214 (by decide) rfl hf (fun hf => ?_) (fun hf => ?_)
  · refine j_iconst (q := 221) (0) h dX7_put_220 ki_0 rfl ?_
    refine j_istore (q := 223) [_, _, _, _, _, _, _] h dX7_put_221 rfl (by decide) rfl rfl ?_
    exact j_sub (lsub_s (lsub_n (lsub_n (lsub_s (lsub_s (lsub_n (lsub_n lsub_0))))))) (w_X7_put_223 h FU _ _ _ _ hf)
  · refine j_bipush (q := 219) (-7) h dX7_put_217 kb_m7 rfl ?_
    exact j_iret h dX7_put_219 hf
set_option maxRecDepth 20000 in
theorem w_X7_put_181 {g : GT} {K : KT} {P : PT} {res : Int32 × VT} (h : OK g RX7 cX7_put 7 (some .int)) {k28 : Nat → Int32 → Int32 → Int32 → Int32 → VT → Option (Int32 × VT)} (hk28 : ∀ (l0 : Nat) (l1 : Int32) (l2 : Int32) (l3 : Int32) (l4 : Int32) (V : VT), k28 l0 l1 l2 l3 l4 V = some res → J g rm_X7_put (QF g (some (.int res.1)) K P res.2 0 0) 7 K P V 0 0 28 [some (.ref l0), some (.int l1), some (.int l2), some (.int l3), some (.int l4), none, none] []) {l0 : Nat} {l1 : Int32} {l2 : Int32} {l3 : Int32} {l4 : Int32} {V : VT} (hf : f_X7_put_181 K P k28 l0 l1 l2 l3 l4 V = some res) : J g rm_X7_put (QF g (some (.int res.1)) K P res.2 0 0) 7 K P V 0 0 181 [some (.ref l0), some (.int l1), some (.int l2), some (.int l3), some (.int l4), none, none] [] := by
  rw [f_X7_put_181] at hf
  refine j_iinc (q := 184) _ [_, _, _, _, _, _, _] h dX7_put_181 rfl (by decide) rfl (kc_1 _) rfl rfl ?_
  refine j_goto 28 h dX7_put_184 (by decide) ?_
  exact j_sub (lsub_s (lsub_s (lsub_s (lsub_s (lsub_s (lsub_n (lsub_n lsub_0))))))) (hk28 _ _ _ _ _ _ hf)
set_option maxRecDepth 20000 in
theorem w_X7_put_170 {g : GT} {K : KT} {P : PT} {res : Int32 × VT} (h : OK g RX7 cX7_put 7 (some .int)) {k28 : Nat → Int32 → Int32 → Int32 → Int32 → VT → Option (Int32 × VT)} (hk28 : ∀ (l0 : Nat) (l1 : Int32) (l2 : Int32) (l3 : Int32) (l4 : Int32) (V : VT), k28 l0 l1 l2 l3 l4 V = some res → J g rm_X7_put (QF g (some (.int res.1)) K P res.2 0 0) 7 K P V 0 0 28 [some (.ref l0), some (.int l1), some (.int l2), some (.int l3), some (.int l4), none, none] []) {l0 : Nat} {l1 : Int32} {l2 : Int32} {l3 : Int32} {l4 : Int32} {l5 : Int32} {V : VT} (hf : f_X7_put_170 K P k28 l0 l1 l2 l3 l4 l5 V = some res) : J g rm_X7_put (QF g (some (.int res.1)) K P res.2 0 0) 7 K P V 0 0 170 [some (.ref l0), some (.int l1), some (.int l2), some (.int l3), some (.int l4), some (.int l5), none] [] := by
  rw [f_X7_put_170] at hf
  refine j_aload_n (q := 171) h dX7_put_170 rfl rfl ?_
  refine j_gR (q := 174) h uin_X7 rfl rfl (by decide) rfl fl_X7_41 dX7_put_171 rfl hf (fun b1 hf => ?_)
  refine j_iload_n (q := 175) h dX7_put_174 rfl rfl ?_
  refine j_iload (q := 177) h dX7_put_175 rfl rfl ?_
  refine j_iast (q := 178) h dX7_put_177 rfl hf (fun hf => ?_)
  refine j_iinc (q := 181) _ [_, _, _, _, _, _, _] h dX7_put_178 rfl (by decide) rfl (kc_1 _) rfl rfl ?_
  exact j_sub (lsub_s (lsub_s (lsub_s (lsub_s (lsub_s (lsub_n (lsub_n lsub_0))))))) (w_X7_put_181 h hk28 hf)
set_option maxRecDepth 20000 in
theorem w_X7_put_119 {g : GT} {K : KT} {P : PT} {res : Int32 × VT} (h : OK g RX7 cX7_put 7 (some .int)) {k28 : Nat → Int32 → Int32 → Int32 → Int32 → VT → Option (Int32 × VT)} (hk28 : ∀ (l0 : Nat) (l1 : Int32) (l2 : Int32) (l3 : Int32) (l4 : Int32) (V : VT), k28 l0 l1 l2 l3 l4 V = some res → J g rm_X7_put (QF g (some (.int res.1)) K P res.2 0 0) 7 K P V 0 0 28 [some (.ref l0), some (.int l1), some (.int l2), some (.int l3), some (.int l4), none, none] []) {l0 : Nat} {l1 : Int32} {l2 : Int32} {l3 : Int32} {l4 : Int32} {l5 : Int32} {l6 : Int32} {V : VT} (hf : f_X7_put_119 K P k28 l0 l1 l2 l3 l4 l5 l6 V = some res) : J g rm_X7_put (QF g (some (.int res.1)) K P res.2 0 0) 7 K P V 0 0 119 [some (.ref l0), some (.int l1), some (.int l2), some (.int l3), some (.int l4), some (.int l5), some (.int l6)] [] := by
  rw [f_X7_put_119] at hf
  refine j_iload (q := 121) h dX7_put_119 rfl rfl ?_
  refine j_if_eq (q := 124) 170 h dX7_put_121 (by decide) rfl hf (fun hf => ?_) (fun hf => ?_)
  · exact j_sub (lsub_s (lsub_s (lsub_s (lsub_s (lsub_s (lsub_s (lsub_n lsub_0))))))) (w_X7_put_170 h hk28 hf)
  · refine j_aload_n (q := 125) h dX7_put_124 rfl rfl ?_
    refine j_gR (q := 128) h uin_X7 rfl rfl (by decide) rfl fl_X7_16 dX7_put_125 rfl hf (fun b1 hf => ?_)
    refine j_iload_n (q := 129) h dX7_put_128 rfl rfl ?_
    refine j_iald (q := 130) h dX7_put_129 rfl hf (fun hf => ?_)
    refine j_iconst (q := 131) (3) h dX7_put_130 ki_3 rfl ?_
    refine j_icmp_ne (q := 134) 170 h dX7_put_131 (by decide) rfl hf (fun hf => ?_) (fun hf => ?_)
    · exact j_sub (lsub_s (lsub_s (lsub_s (lsub_s (lsub_s (lsub_s (lsub_n lsub_0))))))) (w_X7_put_170 h hk28 hf)
    · refine j_aload_n (q := 135) h dX7_put_134 rfl rfl ?_
      refine j_gR (q := 138) h uin_X7 rfl rfl (by decide) rfl fl_X7_41 dX7_put_135 rfl hf (fun b3 hf => ?_)
      refine j_iload_n (q := 139) h dX7_put_138 rfl rfl ?_
      refine j_iload (q := 141) h dX7_put_139 rfl rfl ?_
      refine j_bipush (q := 143) (16) h dX7_put_141 kb_16 rfl ?_
      refine j_idiv (q := 144) h dX7_put_143 rfl hf (fun hf => ?_)
      refine j_cSi (q := 147) (As := [.int _]) h rfl hf (fun _ hx => ct_X7_digit _ _ _ hx) ml_X7_100 sw_X7_digit rf_X7_put_X7_digit ⟨Nat.zero_le _, Nat.zero_le _⟩ (Nat.le_of_ble_eq_true rfl) dX7_put_144 rfl (fun _ _ hf => ?_)
      refine j_iast (q := 148) h dX7_put_147 rfl hf (fun hf => ?_)
      refine j_aload_n (q := 149) h dX7_put_148 rfl rfl ?_
      refine j_gR (q := 152) h uin_X7 rfl rfl (by decide) rfl fl_X7_41 dX7_put_149 rfl hf (fun b7 hf => ?_)
      refine j_iload_n (q := 153) h dX7_put_152 rfl rfl ?_
      refine j_iconst (q := 154) (1) h dX7_put_153 ki_1 rfl ?_
      refine j_iadd (q := 155) h dX7_put_154 rfl ?_
      refine j_iload (q := 157) h dX7_put_155 rfl rfl ?_
      refine j_bipush (q := 159) (16) h dX7_put_157 kb_16 rfl ?_
      refine j_irem (q := 160) h dX7_put_159 rfl hf (fun hf => ?_)
      refine j_cSi (q := 163) (As := [.int _]) h rfl hf (fun _ hx => ct_X7_digit _ _ _ hx) ml_X7_100 sw_X7_digit rf_X7_put_X7_digit ⟨Nat.zero_le _, Nat.zero_le _⟩ (Nat.le_of_ble_eq_true rfl) dX7_put_160 rfl (fun _ _ hf => ?_)
      refine j_iast (q := 164) h dX7_put_163 rfl hf (fun hf => ?_)
      refine j_iinc (q := 167) _ [_, _, _, _, _, _, _] h dX7_put_164 rfl (by decide) rfl (kc_2 _) rfl rfl ?_
      refine j_goto 181 h dX7_put_167 (by decide) ?_
      exact j_sub (lsub_s (lsub_s (lsub_s (lsub_s (lsub_s (lsub_n (lsub_n lsub_0))))))) (w_X7_put_181 h hk28 hf)
set_option maxRecDepth 20000 in
theorem w_X7_put_115 {g : GT} {K : KT} {P : PT} {res : Int32 × VT} (h : OK g RX7 cX7_put 7 (some .int)) {k28 : Nat → Int32 → Int32 → Int32 → Int32 → VT → Option (Int32 × VT)} (hk28 : ∀ (l0 : Nat) (l1 : Int32) (l2 : Int32) (l3 : Int32) (l4 : Int32) (V : VT), k28 l0 l1 l2 l3 l4 V = some res → J g rm_X7_put (QF g (some (.int res.1)) K P res.2 0 0) 7 K P V 0 0 28 [some (.ref l0), some (.int l1), some (.int l2), some (.int l3), some (.int l4), none, none] []) {l0 : Nat} {l1 : Int32} {l2 : Int32} {l3 : Int32} {l4 : Int32} {l5 : Int32} {l6 : Int32} {s0 : Nat} {s1 : Int32} {s2 : Int32} {V : VT} (hf : f_X7_put_115 K P k28 l0 l1 l2 l3 l4 l5 l6 s0 s1 s2 V = some res) : J g rm_X7_put (QF g (some (.int res.1)) K P res.2 0 0) 7 K P V 0 0 115 [some (.ref l0), some (.int l1), some (.int l2), some (.int l3), some (.int l4), some (.int l5), some (.int l6)] [.int s2, .int s1, .ref s0] := by
  rw [f_X7_put_115] at hf
  refine j_iast (q := 116) h dX7_put_115 rfl hf (fun hf => ?_)
  refine j_iinc (q := 119) _ [_, _, _, _, _, _, _] h dX7_put_116 rfl (by decide) rfl (kc_1 _) rfl rfl ?_
  exact j_sub (lsub_s (lsub_s (lsub_s (lsub_s (lsub_s (lsub_s (lsub_s lsub_0))))))) (w_X7_put_119 h hk28 hf)
set_option maxRecDepth 20000 in
theorem w_X7_put_84 {g : GT} {K : KT} {P : PT} {res : Int32 × VT} (h : OK g RX7 cX7_put 7 (some .int)) {k28 : Nat → Int32 → Int32 → Int32 → Int32 → VT → Option (Int32 × VT)} (hk28 : ∀ (l0 : Nat) (l1 : Int32) (l2 : Int32) (l3 : Int32) (l4 : Int32) (V : VT), k28 l0 l1 l2 l3 l4 V = some res → J g rm_X7_put (QF g (some (.int res.1)) K P res.2 0 0) 7 K P V 0 0 28 [some (.ref l0), some (.int l1), some (.int l2), some (.int l3), some (.int l4), none, none] []) {l0 : Nat} {l1 : Int32} {l2 : Int32} {l3 : Int32} {l4 : Int32} {l5 : Int32} {l6 : Int32} {V : VT} (hf : f_X7_put_84 K P k28 l0 l1 l2 l3 l4 l5 l6 V = some res) : J g rm_X7_put (QF g (some (.int res.1)) K P res.2 0 0) 7 K P V 0 0 84 [some (.ref l0), some (.int l1), some (.int l2), some (.int l3), some (.int l4), some (.int l5), some (.int l6)] [] := by
  rw [f_X7_put_84] at hf
  refine j_iload (q := 86) h dX7_put_84 rfl rfl ?_
  refine j_if_eq (q := 89) 119 h dX7_put_86 (by decide) rfl hf (fun hf => ?_) (fun hf => ?_)
  · exact j_sub (lsub_s (lsub_s (lsub_s (lsub_s (lsub_s (lsub_s (lsub_s lsub_0))))))) (w_X7_put_119 h hk28 hf)
  · refine j_aload_n (q := 90) h dX7_put_89 rfl rfl ?_
    refine j_gR (q := 93) h uin_X7 rfl rfl (by decide) rfl fl_X7_41 dX7_put_90 rfl hf (fun b1 hf => ?_)
    refine j_iload_n (q := 94) h dX7_put_93 rfl rfl ?_
    refine j_aload_n (q := 95) h dX7_put_94 rfl rfl ?_
    refine j_gR (q := 98) h uin_X7 rfl rfl (by decide) rfl fl_X7_16 dX7_put_95 rfl hf (fun b2 hf => ?_)
    refine j_iload_n (q := 99) h dX7_put_98 rfl rfl ?_
    refine j_iald (q := 100) h dX7_put_99 rfl hf (fun hf => ?_)
    refine j_iconst (q := 101) (2) h dX7_put_100 ki_2 rfl ?_
    refine j_icmp_ne (q := 104) 109 h dX7_put_101 (by decide) rfl hf (fun hf => ?_) (fun hf => ?_)
    · refine j_aload_n (q := 110) h dX7_put_109 rfl rfl ?_
      refine j_gR (q := 113) h uin_X7 rfl rfl (by decide) rfl fl_X7_19 dX7_put_110 rfl hf (fun b4 hf => ?_)
      refine j_iload_n (q := 114) h dX7_put_113 rfl rfl ?_
      refine j_iald (q := 115) h dX7_put_114 rfl hf (fun hf => ?_)
      exact j_sub (lsub_s (lsub_s (lsub_s (lsub_s (lsub_s (lsub_s (lsub_s lsub_0))))))) (w_X7_put_115 h hk28 hf)
    · refine j_iload (q := 106) h dX7_put_104 rfl rfl ?_
      refine j_goto 115 h dX7_put_106 (by decide) ?_
      exact j_sub (lsub_s (lsub_s (lsub_s (lsub_s (lsub_s (lsub_s (lsub_s lsub_0))))))) (w_X7_put_115 h hk28 hf)
set_option maxRecDepth 20000 in
theorem w_X7_put_65 {g : GT} {K : KT} {P : PT} {res : Int32 × VT} (h : OK g RX7 cX7_put 7 (some .int)) {k28 : Nat → Int32 → Int32 → Int32 → Int32 → VT → Option (Int32 × VT)} (hk28 : ∀ (l0 : Nat) (l1 : Int32) (l2 : Int32) (l3 : Int32) (l4 : Int32) (V : VT), k28 l0 l1 l2 l3 l4 V = some res → J g rm_X7_put (QF g (some (.int res.1)) K P res.2 0 0) 7 K P V 0 0 28 [some (.ref l0), some (.int l1), some (.int l2), some (.int l3), some (.int l4), none, none] []) {l0 : Nat} {l1 : Int32} {l2 : Int32} {l3 : Int32} {l4 : Int32} {l5 : Int32} {s0 : Int32} {V : VT} (hf : f_X7_put_65 K P k28 l0 l1 l2 l3 l4 l5 s0 V = some res) : J g rm_X7_put (QF g (some (.int res.1)) K P res.2 0 0) 7 K P V 0 0 65 [some (.ref l0), some (.int l1), some (.int l2), some (.int l3), some (.int l4), some (.int l5), none] [.int s0] := by
  rw [f_X7_put_65] at hf
  refine j_istore (q := 67) [_, _, _, _, _, _, _] h dX7_put_65 rfl (by decide) rfl rfl ?_
  refine j_iload (q := 69) h dX7_put_67 rfl rfl ?_
  refine j_if_eq (q := 72) 84 h dX7_put_69 (by decide) rfl hf (fun hf => ?_) (fun hf => ?_)
  · exact j_sub (lsub_s (lsub_s (lsub_s (lsub_s (lsub_s (lsub_s (lsub_s lsub_0))))))) (w_X7_put_84 h hk28 hf)
  · refine j_aload_n (q := 73) h dX7_put_72 rfl rfl ?_
    refine j_gR (q := 76) h uin_X7 rfl rfl (by decide) rfl fl_X7_16 dX7_put_73 rfl hf (fun b1 hf => ?_)
    refine j_iload_n (q := 77) h dX7_put_76 rfl rfl ?_
    refine j_iald (q := 78) h dX7_put_77 rfl hf (fun hf => ?_)
    refine j_if_ne (q := 81) 84 h dX7_put_78 (by decide) rfl hf (fun hf => ?_) (fun hf => ?_)
    · exact j_sub (lsub_s (lsub_s (lsub_s (lsub_s (lsub_s (lsub_s (lsub_s lsub_0))))))) (w_X7_put_84 h hk28 hf)
    · refine j_bipush (q := 83) (-5) h dX7_put_81 kb_m5 rfl ?_
      exact j_iret h dX7_put_83 hf
set_option maxRecDepth 20000 in
theorem w_X7_put_64 {g : GT} {K : KT} {P : PT} {res : Int32 × VT} (h : OK g RX7 cX7_put 7 (some .int)) {k28 : Nat → Int32 → Int32 → Int32 → Int32 → VT → Option (Int32 × VT)} (hk28 : ∀ (l0 : Nat) (l1 : Int32) (l2 : Int32) (l3 : Int32) (l4 : Int32) (V : VT), k28 l0 l1 l2 l3 l4 V = some res → J g rm_X7_put (QF g (some (.int res.1)) K P res.2 0 0) 7 K P V 0 0 28 [some (.ref l0), some (.int l1), some (.int l2), some (.int l3), some (.int l4), none, none] []) {l0 : Nat} {l1 : Int32} {l2 : Int32} {l3 : Int32} {l4 : Int32} {l5 : Int32} {V : VT} (hf : f_X7_put_64 K P k28 l0 l1 l2 l3 l4 l5 V = some res) : J g rm_X7_put (QF g (some (.int res.1)) K P res.2 0 0) 7 K P V 0 0 64 [some (.ref l0), some (.int l1), some (.int l2), some (.int l3), some (.int l4), some (.int l5), none] [] := by
  rw [f_X7_put_64] at hf
  refine j_iconst (q := 65) (0) h dX7_put_64 ki_0 rfl ?_
  exact j_sub (lsub_s (lsub_s (lsub_s (lsub_s (lsub_s (lsub_s (lsub_n lsub_0))))))) (w_X7_put_65 h hk28 hf)
set_option maxRecDepth 20000 in
theorem w_X7_put_28 {g : GT} {K : KT} {P : PT} {res : Int32 × VT} (h : OK g RX7 cX7_put 7 (some .int)) : ∀ (n : Nat) (l0 : Nat) (l1 : Int32) (l2 : Int32) (l3 : Int32) (l4 : Int32) (V : VT), f_X7_put_28 K P n l0 l1 l2 l3 l4 V = some res → J g rm_X7_put (QF g (some (.int res.1)) K P res.2 0 0) 7 K P V 0 0 28 [some (.ref l0), some (.int l1), some (.int l2), some (.int l3), some (.int l4), none, none] [] := by
  intro n
  induction n with
  | zero => intro l0 l1 l2 l3 l4 V hf; rw [f_X7_put_28] at hf; cases hf
  | succ n ih =>
    intro l0 l1 l2 l3 l4 V hf
    rw [f_X7_put_28] at hf
    refine j_iload (q := 30) h dX7_put_28 rfl rfl ?_
    refine j_aload_n (q := 31) h dX7_put_30 rfl rfl ?_
    refine j_gI (q := 34) h uin_X7 rfl rfl (by decide) rfl fl_X7_94 dX7_put_31 rfl hf (fun hf => ?_)
    refine j_icmp_ge (q := 37) 187 h dX7_put_34 (by decide) rfl hf (fun hf => ?_) (fun hf => ?_)
    · refine j_aload_n (q := 188) h dX7_put_187 rfl rfl ?_
      refine j_iload_n (q := 189) h dX7_put_188 rfl rfl ?_
      refine j_cVi (q := 192) (As := [.int _]) h rfl hf (fun _ hx => ct_X7_hasMark _ _ _ hx) ml_X7_87 vw_X7_hasMark rf_X7_put_X7_hasMark ⟨Nat.zero_le _, Nat.zero_le _⟩ (Nat.le_of_ble_eq_true rfl) dX7_put_189 rfl (fun _ _ hf => ?_)
      refine j_if_eq (q := 195) 210 h dX7_put_192 (by decide) rfl hf (fun hf => ?_) (fun hf => ?_)
      · exact j_sub (lsub_s (lsub_n (lsub_n (lsub_s (lsub_n (lsub_n (lsub_n lsub_0))))))) (w_X7_put_210 h hf)
      · refine j_aload_n (q := 196) h dX7_put_195 rfl rfl ?_
        refine j_gR (q := 199) h uin_X7 rfl rfl (by decide) rfl fl_X7_41 dX7_put_196 rfl hf (fun b4 hf => ?_)
        refine j_iload_n (q := 200) h dX7_put_199 rfl rfl ?_
        refine j_aload_n (q := 201) h dX7_put_200 rfl rfl ?_
        refine j_gR (q := 204) h uin_X7 rfl rfl (by decide) rfl fl_X7_13 dX7_put_201 rfl hf (fun b5 hf => ?_)
        refine j_iload_n (q := 205) h dX7_put_204 rfl rfl ?_
        refine j_iald (q := 206) h dX7_put_205 rfl hf (fun hf => ?_)
        refine j_iast (q := 207) h dX7_put_206 rfl hf (fun hf => ?_)
        refine j_iinc (q := 210) _ [_, _, _, _, _, _, _] h dX7_put_207 rfl (by decide) rfl (kc_1 _) rfl rfl ?_
        exact j_sub (lsub_s (lsub_n (lsub_n (lsub_s (lsub_n (lsub_n (lsub_n lsub_0))))))) (w_X7_put_210 h hf)
    · refine j_aload_n (q := 38) h dX7_put_37 rfl rfl ?_
      refine j_gR (q := 41) h uin_X7 rfl rfl (by decide) rfl fl_X7_38 dX7_put_38 rfl hf (fun b8 hf => ?_)
      refine j_iload (q := 43) h dX7_put_41 rfl rfl ?_
      refine j_iald (q := 44) h dX7_put_43 rfl hf (fun hf => ?_)
      refine j_istore (q := 46) [_, _, _, _, _, _, _] h dX7_put_44 rfl (by decide) rfl rfl ?_
      refine j_iload_n (q := 47) h dX7_put_46 rfl rfl ?_
      refine j_if_ne (q := 50) 64 h dX7_put_47 (by decide) rfl hf (fun hf => ?_) (fun hf => ?_)
      · exact j_sub (lsub_s (lsub_s (lsub_s (lsub_s (lsub_s (lsub_s (lsub_n lsub_0))))))) (w_X7_put_64 h ih hf)
      · refine j_aload_n (q := 51) h dX7_put_50 rfl rfl ?_
        refine j_iload_n (q := 52) h dX7_put_51 rfl rfl ?_
        refine j_iload (q := 54) h dX7_put_52 rfl rfl ?_
        refine j_cVi (q := 57) (As := [.int _, .int _]) h rfl hf (fun _ hx => ct_X7_isMasked _ _ _ hx) ml_X7_97 vw_X7_isMasked rf_X7_put_X7_isMasked ⟨Nat.zero_le _, Nat.zero_le _⟩ (Nat.le_of_ble_eq_true rfl) dX7_put_54 rfl (fun _ _ hf => ?_)
        refine j_if_eq (q := 60) 64 h dX7_put_57 (by decide) rfl hf (fun hf => ?_) (fun hf => ?_)
        · exact j_sub (lsub_s (lsub_s (lsub_s (lsub_s (lsub_s (lsub_s (lsub_n lsub_0))))))) (w_X7_put_64 h ih hf)
        · refine j_iconst (q := 61) (1) h dX7_put_60 ki_1 rfl ?_
          refine j_goto 65 h dX7_put_61 (by decide) ?_
          exact j_sub (lsub_s (lsub_s (lsub_s (lsub_s (lsub_s (lsub_s (lsub_n lsub_0))))))) (w_X7_put_65 h ih hf)
set_option maxRecDepth 20000 in
theorem w_X7_put_25 {g : GT} {K : KT} {P : PT} {res : Int32 × VT} (h : OK g RX7 cX7_put 7 (some .int)) {l0 : Nat} {l1 : Int32} {l2 : Int32} {l3 : Int32} {V : VT} (hf : f_X7_put_25 K P l0 l1 l2 l3 V = some res) : J g rm_X7_put (QF g (some (.int res.1)) K P res.2 0 0) 7 K P V 0 0 25 [some (.ref l0), some (.int l1), some (.int l2), some (.int l3), none, none, none] [] := by
  rw [f_X7_put_25] at hf
  refine j_iconst (q := 26) (0) h dX7_put_25 ki_0 rfl ?_
  refine j_istore (q := 28) [_, _, _, _, _, _, _] h dX7_put_26 rfl (by decide) rfl rfl ?_
  exact j_sub (lsub_s (lsub_s (lsub_s (lsub_s (lsub_s (lsub_n (lsub_n lsub_0))))))) (w_X7_put_28 h FU _ _ _ _ _ _ hf)
set_option maxRecDepth 20000 in
theorem w_X7_put_0 {g : GT} {K : KT} {P : PT} {res : Int32 × VT} (h : OK g RX7 cX7_put 7 (some .int)) {l0 : Nat} {l1 : Int32} {l2 : Int32} {V : VT} (hf : f_X7_put K P l0 l1 l2 V = some res) : J g rm_X7_put (QF g (some (.int res.1)) K P res.2 0 0) 7 K P V 0 0 0 [some (.ref l0), some (.int l1), some (.int l2), none, none, none, none] [] := by
  rw [f_X7_put] at hf
  refine j_iconst (q := 1) (0) h dX7_put_0 ki_0 rfl ?_
  refine j_istore_n (q := 2) [_, _, _, _, _, _, _] h dX7_put_1 rfl (by decide) rfl rfl ?_
  refine j_aload_n (q := 3) h dX7_put_2 rfl rfl ?_
  refine j_iload_n (q := 4) h dX7_put_3 rfl rfl ?_
  refine j_cVi (q := 7) (As := [.int _]) h rfl hf (fun _ hx => ct_X7_hasMark _ _ _ hx) ml_X7_87 vw_X7_hasMark rf_X7_put_X7_hasMark ⟨Nat.zero_le _, Nat.zero_le _⟩ (Nat.le_of_ble_eq_true rfl) dX7_put_4 rfl (fun _ _ hf => ?_)
  refine j_if_eq (q := 10) 25 h dX7_put_7 (by decide) rfl hf (fun hf => ?_) (fun hf => ?_)
  · exact j_sub (lsub_s (lsub_s (lsub_s (lsub_s (lsub_n (lsub_n (lsub_n lsub_0))))))) (w_X7_put_25 h hf)
  · refine j_aload_n (q := 11) h dX7_put_10 rfl rfl ?_
    refine j_gR (q := 14) h uin_X7 rfl rfl (by decide) rfl fl_X7_41 dX7_put_11 rfl hf (fun b3 hf => ?_)
    refine j_iload_n (q := 15) h dX7_put_14 rfl rfl ?_
    refine j_aload_n (q := 16) h dX7_put_15 rfl rfl ?_
    refine j_gR (q := 19) h uin_X7 rfl rfl (by decide) rfl fl_X7_13 dX7_put_16 rfl hf (fun b4 hf => ?_)
    refine j_iload_n (q := 20) h dX7_put_19 rfl rfl ?_
    refine j_iald (q := 21) h dX7_put_20 rfl hf (fun hf => ?_)
    refine j_iast (q := 22) h dX7_put_21 rfl hf (fun hf => ?_)
    refine j_iinc (q := 25) _ [_, _, _, _, _, _, _] h dX7_put_22 rfl (by decide) rfl (kc_1 _) rfl rfl ?_
    exact j_sub (lsub_s (lsub_s (lsub_s (lsub_s (lsub_n (lsub_n (lsub_n lsub_0))))))) (w_X7_put_25 h hf)
theorem ct_X7_put (l : Launch) (D : va_G) (T : TT) {K : KT} {P : PT} {l0 : Nat} {l1 : Int32} {l2 : Int32} {V : VT} {res : Int32 × VT} (hf : f_X7_put K P l0 l1 l2 V = some res) : CT l D T yX7_put cX7_put 7 (some .int) rm_X7_put K P V [.ref l0, .int l1, .int l2] (some (.int res.1)) res.2 :=
  fun _ => CT_of pn_X7 (cat_a (cat_i (cat_i cat_0))) (Nat.le_of_ble_eq_true rfl) [some (.ref l0), some (.int l1), some (.int l2), none, none, none, none] rfl (fun _ _ _ h => w_X7_put_0 h hf)
