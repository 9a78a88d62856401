/-! QuotedLayersModel.restore(I)I -/
def rm_X7_restore : Room := { frames := 1, cells := 0, slots := 0, locals := 22 }
theorem rf_X7_restore_X7_in : RF rm_X7_in rm_X7_restore 3 := ⟨⟨by decide, by decide⟩, rfl, rfl⟩
def f_X7_restore_156 (K : KT) (P : PT) : Nat → Nat → Int32 → Int32 → VT → Option (Int32 × VT)
  | 0, _, _, _, _ => none
  | n + 1, l0, l2, l3, V => if l3 < ((12 : Int32)) then (gR K P l0 5 10 fun b7 => gR K P l0 5 20 fun b8 => aI K V 0 b8 ((l2 + ((55 : Int32))) + l3) fun x9 => sA K V b7 l3 x9 fun V10 => (f_X7_restore_156 K P n) l0 l2 (l3 + (1 : Int32)) V10) else (gR K P l0 5 20 fun b1 => aI K V 0 b1 (l2 + ((67 : Int32))) fun x2 => sI K V l0 5 7 x2 fun V3 => gR K P l0 5 20 fun b4 => aI K V3 0 b4 (l2 + ((68 : Int32))) fun x5 => sI K V3 l0 5 9 x5 fun V6 => some ((1 : Int32), V6))
def f_X7_restore_125 (K : KT) (P : PT) : Nat → Nat → Int32 → Int32 → VT → Option (Int32 × VT)
  | 0, _, _, _, _ => none
  | n + 1, l0, l2, l3, V => if l3 < ((30 : Int32)) then (gR K P l0 5 6 fun b1 => gR K P l0 5 20 fun b2 => aI K V 0 b2 ((l2 + ((25 : Int32))) + l3) fun x3 => sA K V b1 l3 x3 fun V4 => (f_X7_restore_125 K P n) l0 l2 (l3 + (1 : Int32)) V4) else (f_X7_restore_156 K P FU l0 l2 ((0 : Int32)) V)
def f_X7_restore_31 (K : KT) (P : PT) : Nat → Nat → Int32 → Int32 → VT → Option (Int32 × VT)
  | 0, _, _, _, _ => none
  | n + 1, l0, l2, l3, V => if l3 < ((5 : Int32)) then (gR K P l0 5 2 fun b1 => gR K P l0 5 20 fun b2 => aI K V 0 b2 (l2 + l3) fun x3 => sA K V b1 l3 x3 fun V4 => gR K P l0 5 3 fun b5 => gR K P l0 5 20 fun b6 => aI K V4 0 b6 ((l2 + ((5 : Int32))) + l3) fun x7 => sA K V4 b5 l3 x7 fun V8 => gR K P l0 5 4 fun b9 => gR K P l0 5 20 fun b10 => aI K V8 0 b10 ((l2 + ((10 : Int32))) + l3) fun x11 => sA K V8 b9 l3 x11 fun V12 => gR K P l0 5 5 fun b13 => gR K P l0 5 20 fun b14 => aI K V12 0 b14 ((l2 + ((15 : Int32))) + l3) fun x15 => sA K V12 b13 l3 x15 fun V16 => gR K P l0 5 8 fun b17 => gR K P l0 5 20 fun b18 => aI K V16 0 b18 ((l2 + ((20 : Int32))) + l3) fun x19 => sA K V16 b17 l3 x19 fun V20 => (f_X7_restore_31 K P n) l0 l2 (l3 + (1 : Int32)) V20) else (f_X7_restore_125 K P FU l0 l2 ((0 : Int32)) V)
def f_X7_restore (K : KT) (P : PT) (l0 : Nat) (l1 : Int32) (V : VT) : Option (Int32 × VT) :=
  cS (f_X7_in K P l1 ((0 : Int32)) ((1 : Int32)) V) fun x2 V1 => if x2 = 0 then (some ((-2 : Int32), V1)) else (gR K P l0 5 21 fun b3 => aI K V1 1 b3 l1 fun x4 => if x4 = 0 then (some ((-3 : Int32), V1)) else (f_X7_restore_31 K P FU l0 (((70 : Int32)) * l1) ((0 : Int32)) V1))
set_option maxRecDepth 20000 in
theorem w_X7_restore_156 {g : GT} {K : KT} {P : PT} {res : Int32 × VT} (h : OK g RX7 cX7_restore 4 (some .int)) : ∀ (n : Nat) (l0 : Nat) (l2 : Int32) (l3 : Int32) (V : VT), f_X7_restore_156 K P n l0 l2 l3 V = some res → J g rm_X7_restore (QF g (some (.int res.1)) K P res.2 0 0) 4 K P V 0 0 156 [some (.ref l0), none, some (.int l2), some (.int l3)] [] := by
  intro n
  induction n with
  | zero => intro l0 l2 l3 V hf; rw [f_X7_restore_156] at hf; cases hf
  | succ n ih =>
    intro l0 l2 l3 V hf
    rw [f_X7_restore_156] at hf
    refine j_iload_n (q := 157) h dX7_restore_156 rfl rfl ?_
    refine j_bipush (q := 159) (12) h dX7_restore_157 kb_12 rfl ?_
    refine j_icmp_ge (q := 162) 185 h dX7_restore_159 (by decide) rfl hf (fun hf => ?_) (fun hf => ?_)
    · refine j_aload_n (q := 186) h dX7_restore_185 rfl rfl ?_
      refine j_aload_n (q := 187) h dX7_restore_186 rfl rfl ?_
      refine j_gR (q := 190) h uin_X7 rfl rfl (by decide) rfl fl_X7_56 dX7_restore_187 rfl hf (fun b1 hf => ?_)
      refine j_iload_n (q := 191) h dX7_restore_190 rfl rfl ?_
      refine j_bipush (q := 193) (67) h dX7_restore_191 kb_67 rfl ?_
      refine j_iadd (q := 194) h dX7_restore_193 rfl ?_
      refine j_iald (q := 195) h dX7_restore_194 rfl hf (fun hf => ?_)
      refine j_sI (q := 198) h tyX7 tyX7_ok nmX7 uin_X7 rfl rfl (by decide) rfl rfl (by decide +kernel) fl_X7_84 dX7_restore_195 rfl hf (fun hf => ?_)
      refine j_aload_n (q := 199) h dX7_restore_198 rfl rfl ?_
      refine j_aload_n (q := 200) h dX7_restore_199 rfl rfl ?_
      refine j_gR (q := 203) h uin_X7 rfl rfl (by decide) rfl fl_X7_56 dX7_restore_200 rfl hf (fun b4 hf => ?_)
      refine j_iload_n (q := 204) h dX7_restore_203 rfl rfl ?_
      refine j_bipush (q := 206) (68) h dX7_restore_204 kb_68 rfl ?_
      refine j_iadd (q := 207) h dX7_restore_206 rfl ?_
      refine j_iald (q := 208) h dX7_restore_207 rfl hf (fun hf => ?_)
      refine j_sI (q := 211) h tyX7 tyX7_ok nmX7 uin_X7 rfl rfl (by decide) rfl rfl (by decide +kernel) fl_X7_31 dX7_restore_208 rfl hf (fun hf => ?_)
      refine j_iconst (q := 212) (1) h dX7_restore_211 ki_1 rfl ?_
      exact j_iret h dX7_restore_212 hf
    · refine j_aload_n (q := 163) h dX7_restore_162 rfl rfl ?_
      refine j_gR (q := 166) h uin_X7 rfl rfl (by decide) rfl fl_X7_35 dX7_restore_163 rfl hf (fun b7 hf => ?_)
      refine j_iload_n (q := 167) h dX7_restore_166 rfl rfl ?_
      refine j_aload_n (q := 168) h dX7_restore_167 rfl rfl ?_
      refine j_gR (q := 171) h uin_X7 rfl rfl (by decide) rfl fl_X7_56 dX7_restore_168 rfl hf (fun b8 hf => ?_)
      refine j_iload_n (q := 172) h dX7_restore_171 rfl rfl ?_
      refine j_bipush (q := 174) (55) h dX7_restore_172 kb_55 rfl ?_
      refine j_iadd (q := 175) h dX7_restore_174 rfl ?_
      refine j_iload_n (q := 176) h dX7_restore_175 rfl rfl ?_
      refine j_iadd (q := 177) h dX7_restore_176 rfl ?_
      refine j_iald (q := 178) h dX7_restore_177 rfl hf (fun hf => ?_)
      refine j_iast (q := 179) h dX7_restore_178 rfl hf (fun hf => ?_)
      refine j_iinc (q := 182) _ [_, _, _, _] h dX7_restore_179 rfl (by decide) rfl (kc_1 _) rfl rfl ?_
      refine j_goto 156 h dX7_restore_182 (by decide) ?_
      exact j_sub (lsub_s (lsub_n (lsub_s (lsub_s lsub_0)))) (ih _ _ _ _ hf)
set_option maxRecDepth 20000 in
theorem w_X7_restore_125 {g : GT} {K : KT} {P : PT} {res : Int32 × VT} (h : OK g RX7 cX7_restore 4 (some .int)) : ∀ (n : Nat) (l0 : Nat) (l2 : Int32) (l3 : Int32) (V : VT), f_X7_restore_125 K P n l0 l2 l3 V = some res → J g rm_X7_restore (QF g (some (.int res.1)) K P res.2 0 0) 4 K P V 0 0 125 [some (.ref l0), none, some (.int l2), some (.int l3)] [] := by
  intro n
  induction n with
  | zero => intro l0 l2 l3 V hf; rw [f_X7_restore_125] at hf; cases hf
  | succ n ih =>
    intro l0 l2 l3 V hf
    rw [f_X7_restore_125] at hf
    refine j_iload_n (q := 126) h dX7_restore_125 rfl rfl ?_
    refine j_bipush (q := 128) (30) h dX7_restore_126 kb_30 rfl ?_
    refine j_icmp_ge (q := 131) 154 h dX7_restore_128 (by decide) rfl hf (fun hf => ?_) (fun hf => ?_)
    · refine j_iconst (q := 155) (0) h dX7_restore_154 ki_0 rfl ?_
      refine j_istore_n (q := 156) [_, _, _, _] h dX7_restore_155 rfl (by decide) rfl rfl ?_
      exact j_sub (lsub_s (lsub_n (lsub_s (lsub_s lsub_0)))) (w_X7_restore_156 h FU _ _ _ _ hf)
    · refine j_aload_n (q := 132) h dX7_restore_131 rfl rfl ?_
      refine j_gR (q := 135) h uin_X7 rfl rfl (by decide) rfl fl_X7_25 dX7_restore_132 rfl hf (fun b1 hf => ?_)
      refine j_iload_n (q := 136) h dX7_restore_135 rfl rfl ?_
      refine j_aload_n (q := 137) h dX7_restore_136 rfl rfl ?_
      refine j_gR (q := 140) h uin_X7 rfl rfl (by decide) rfl fl_X7_56 dX7_restore_137 rfl hf (fun b2 hf => ?_)
      refine j_iload_n (q := 141) h dX7_restore_140 rfl rfl ?_
      refine j_bipush (q := 143) (25) h dX7_restore_141 kb_25 rfl ?_
      refine j_iadd (q := 144) h dX7_restore_143 rfl ?_
      refine j_iload_n (q := 145) h dX7_restore_144 rfl rfl ?_
      refine j_iadd (q := 146) h dX7_restore_145 rfl ?_
      refine j_iald (q := 147) h dX7_restore_146 rfl hf (fun hf => ?_)
      refine j_iast (q := 148) h dX7_restore_147 rfl hf (fun hf => ?_)
      refine j_iinc (q := 151) _ [_, _, _, _] h dX7_restore_148 rfl (by decide) rfl (kc_1 _) rfl rfl ?_
      refine j_goto 125 h dX7_restore_151 (by decide) ?_
      exact j_sub (lsub_s (lsub_n (lsub_s (lsub_s lsub_0)))) (ih _ _ _ _ hf)
set_option maxRecDepth 20000 in
theorem w_X7_restore_31 {g : GT} {K : KT} {P : PT} {res : Int32 × VT} (h : OK g RX7 cX7_restore 4 (some .int)) : ∀ (n : Nat) (l0 : Nat) (l2 : Int32) (l3 : Int32) (V : VT), f_X7_restore_31 K P n l0 l2 l3 V = some res → J g rm_X7_restore (QF g (some (.int res.1)) K P res.2 0 0) 4 K P V 0 0 31 [some (.ref l0), none, some (.int l2), some (.int l3)] [] := by
  intro n
  induction n with
  | zero => intro l0 l2 l3 V hf; rw [f_X7_restore_31] at hf; cases hf
  | succ n ih =>
    intro l0 l2 l3 V hf
    rw [f_X7_restore_31] at hf
    refine j_iload_n (q := 32) h dX7_restore_31 rfl rfl ?_
    refine j_iconst (q := 33) (5) h dX7_restore_32 ki_5 rfl ?_
    refine j_icmp_ge (q := 36) 123 h dX7_restore_33 (by decide) rfl hf (fun hf => ?_) (fun hf => ?_)
    · refine j_iconst (q := 124) (0) h dX7_restore_123 ki_0 rfl ?_
      refine j_istore_n (q := 125) [_, _, _, _] h dX7_restore_124 rfl (by decide) rfl rfl ?_
      exact j_sub (lsub_s (lsub_n (lsub_s (lsub_s lsub_0)))) (w_X7_restore_125 h FU _ _ _ _ hf)
    · refine j_aload_n (q := 37) h dX7_restore_36 rfl rfl ?_
      refine j_gR (q := 40) h uin_X7 rfl rfl (by decide) rfl fl_X7_13 dX7_restore_37 rfl hf (fun b1 hf => ?_)
      refine j_iload_n (q := 41) h dX7_restore_40 rfl rfl ?_
      refine j_aload_n (q := 42) h dX7_restore_41 rfl rfl ?_
      refine j_gR (q := 45) h uin_X7 rfl rfl (by decide) rfl fl_X7_56 dX7_restore_42 rfl hf (fun b2 hf => ?_)
      refine j_iload_n (q := 46) h dX7_restore_45 rfl rfl ?_
      refine j_iload_n (q := 47) h dX7_restore_46 rfl rfl ?_
      refine j_iadd (q := 48) h dX7_restore_47 rfl ?_
      refine j_iald (q := 49) h dX7_restore_48 rfl hf (fun hf => ?_)
      refine j_iast (q := 50) h dX7_restore_49 rfl hf (fun hf => ?_)
      refine j_aload_n (q := 51) h dX7_restore_50 rfl rfl ?_
      refine j_gR (q := 54) h uin_X7 rfl rfl (by decide) rfl fl_X7_16 dX7_restore_51 rfl hf (fun b5 hf => ?_)
      refine j_iload_n (q := 55) h dX7_restore_54 rfl rfl ?_
      refine j_aload_n (q := 56) h dX7_restore_55 rfl rfl ?_
      refine j_gR (q := 59) h uin_X7 rfl rfl (by decide) rfl fl_X7_56 dX7_restore_56 rfl hf (fun b6 hf => ?_)
      refine j_iload_n (q := 60) h dX7_restore_59 rfl rfl ?_
      refine j_iconst (q := 61) (5) h dX7_restore_60 ki_5 rfl ?_
      refine j_iadd (q := 62) h dX7_restore_61 rfl ?_
      refine j_iload_n (q := 63) h dX7_restore_62 rfl rfl ?_
      refine j_iadd (q := 64) h dX7_restore_63 rfl ?_
      refine j_iald (q := 65) h dX7_restore_64 rfl hf (fun hf => ?_)
      refine j_iast (q := 66) h dX7_restore_65 rfl hf (fun hf => ?_)
      refine j_aload_n (q := 67) h dX7_restore_66 rfl rfl ?_
      refine j_gR (q := 70) h uin_X7 rfl rfl (by decide) rfl fl_X7_19 dX7_restore_67 rfl hf (fun b9 hf => ?_)
      refine j_iload_n (q := 71) h dX7_restore_70 rfl rfl ?_
      refine j_aload_n (q := 72) h dX7_restore_71 rfl rfl ?_
      refine j_gR (q := 75) h uin_X7 rfl rfl (by decide) rfl fl_X7_56 dX7_restore_72 rfl hf (fun b10 hf => ?_)
      refine j_iload_n (q := 76) h dX7_restore_75 rfl rfl ?_
      refine j_bipush (q := 78) (10) h dX7_restore_76 kb_10 rfl ?_
      refine j_iadd (q := 79) h dX7_restore_78 rfl ?_
      refine j_iload_n (q := 80) h dX7_restore_79 rfl rfl ?_
      refine j_iadd (q := 81) h dX7_restore_80 rfl ?_
      refine j_iald (q := 82) h dX7_restore_81 rfl hf (fun hf => ?_)
      refine j_iast (q := 83) h dX7_restore_82 rfl hf (fun hf => ?_)
      refine j_aload_n (q := 84) h dX7_restore_83 rfl rfl ?_
      refine j_gR (q := 87) h uin_X7 rfl rfl (by decide) rfl fl_X7_22 dX7_restore_84 rfl hf (fun b13 hf => ?_)
      refine j_iload_n (q := 88) h dX7_restore_87 rfl rfl ?_
      refine j_aload_n (q := 89) h dX7_restore_88 rfl rfl ?_
      refine j_gR (q := 92) h uin_X7 rfl rfl (by decide) rfl fl_X7_56 dX7_restore_89 rfl hf (fun b14 hf => ?_)
      refine j_iload_n (q := 93) h dX7_restore_92 rfl rfl ?_
      refine j_bipush (q := 95) (15) h dX7_restore_93 kb_15 rfl ?_
      refine j_iadd (q := 96) h dX7_restore_95 rfl ?_
      refine j_iload_n (q := 97) h dX7_restore_96 rfl rfl ?_
      refine j_iadd (q := 98) h dX7_restore_97 rfl ?_
      refine j_iald (q := 99) h dX7_restore_98 rfl hf (fun hf => ?_)
      refine j_iast (q := 100) h dX7_restore_99 rfl hf (fun hf => ?_)
      refine j_aload_n (q := 101) h dX7_restore_100 rfl rfl ?_
      refine j_gR (q := 104) h uin_X7 rfl rfl (by decide) rfl fl_X7_28 dX7_restore_101 rfl hf (fun b17 hf => ?_)
      refine j_iload_n (q := 105) h dX7_restore_104 rfl rfl ?_
      refine j_aload_n (q := 106) h dX7_restore_105 rfl rfl ?_
      refine j_gR (q := 109) h uin_X7 rfl rfl (by decide) rfl fl_X7_56 dX7_restore_106 rfl hf (fun b18 hf => ?_)
      refine j_iload_n (q := 110) h dX7_restore_109 rfl rfl ?_
      refine j_bipush (q := 112) (20) h dX7_restore_110 kb_20 rfl ?_
      refine j_iadd (q := 113) h dX7_restore_112 rfl ?_
      refine j_iload_n (q := 114) h dX7_restore_113 rfl rfl ?_
      refine j_iadd (q := 115) h dX7_restore_114 rfl ?_
      refine j_iald (q := 116) h dX7_restore_115 rfl hf (fun hf => ?_)
      refine j_iast (q := 117) h dX7_restore_116 rfl hf (fun hf => ?_)
      refine j_iinc (q := 120) _ [_, _, _, _] h dX7_restore_117 rfl (by decide) rfl (kc_1 _) rfl rfl ?_
      refine j_goto 31 h dX7_restore_120 (by decide) ?_
      exact j_sub (lsub_s (lsub_n (lsub_s (lsub_s lsub_0)))) (ih _ _ _ _ hf)
set_option maxRecDepth 20000 in
theorem w_X7_restore_0 {g : GT} {K : KT} {P : PT} {res : Int32 × VT} (h : OK g RX7 cX7_restore 4 (some .int)) {l0 : Nat} {l1 : Int32} {V : VT} (hf : f_X7_restore K P l0 l1 V = some res) : J g rm_X7_restore (QF g (some (.int res.1)) K P res.2 0 0) 4 K P V 0 0 0 [some (.ref l0), some (.int l1), none, none] [] := by
  rw [f_X7_restore] at hf
  refine j_iload_n (q := 1) h dX7_restore_0 rfl rfl ?_
  refine j_iconst (q := 2) (0) h dX7_restore_1 ki_0 rfl ?_
  refine j_iconst (q := 3) (1) h dX7_restore_2 ki_1 rfl ?_
  refine j_cSi (q := 6) (As := [.int _, .int _, .int _]) h rfl hf (fun _ hx => ct_X7_in _ _ _ hx) ml_X7_63 sw_X7_in rf_X7_restore_X7_in ⟨Nat.zero_le _, Nat.zero_le _⟩ (Nat.le_of_ble_eq_true rfl) dX7_restore_3 rfl (fun _ _ hf => ?_)
  refine j_if_ne (q := 9) 12 h dX7_restore_6 (by decide) rfl hf (fun hf => ?_) (fun hf => ?_)
  · refine j_aload_n (q := 13) h dX7_restore_12 rfl rfl ?_
    refine j_gR (q := 16) h uin_X7 rfl rfl (by decide) rfl fl_X7_59 dX7_restore_13 rfl hf (fun b3 hf => ?_)
    refine j_iload_n (q := 17) h dX7_restore_16 rfl rfl ?_
    refine j_bald (q := 18) h dX7_restore_17 rfl hf (fun hf => ?_)
    refine j_if_ne (q := 21) 24 h dX7_restore_18 (by decide) rfl hf (fun hf => ?_) (fun hf => ?_)
    · refine j_bipush (q := 26) (70) h dX7_restore_24 kb_70 rfl ?_
      refine j_iload_n (q := 27) h dX7_restore_26 rfl rfl ?_
      refine j_imul (q := 28) h dX7_restore_27 rfl ?_
      refine j_istore_n (q := 29) [_, _, _, _] h dX7_restore_28 rfl (by decide) rfl rfl ?_
      refine j_iconst (q := 30) (0) h dX7_restore_29 ki_0 rfl ?_
      refine j_istore_n (q := 31) [_, _, _, _] h dX7_restore_30 rfl (by decide) rfl rfl ?_
      exact j_sub (lsub_s (lsub_n (lsub_s (lsub_s lsub_0)))) (w_X7_restore_31 h FU _ _ _ _ hf)
    · refine j_bipush (q := 23) (-3) h dX7_restore_21 kb_m3 rfl ?_
      exact j_iret h dX7_restore_23 hf
  · refine j_bipush (q := 11) (-2) h dX7_restore_9 kb_m2 rfl ?_
    exact j_iret h dX7_restore_11 hf
theorem ct_X7_restore (l : Launch) (D : va_G) (T : TT) {K : KT} {P : PT} {l0 : Nat} {l1 : Int32} {V : VT} {res : Int32 × VT} (hf : f_X7_restore K P l0 l1 V = some res) : CT l D T yX7_restore cX7_restore 4 (some .int) rm_X7_restore K P V [.ref l0, .int l1] (some (.int res.1)) res.2 :=
  fun _ => CT_of pn_X7 (cat_a (cat_i cat_0)) (Nat.le_of_ble_eq_true rfl) [some (.ref l0), some (.int l1), none, none] rfl (fun _ _ _ h => w_X7_restore_0 h hf)
/-! QuotedLayersModel.told(I)I -/
def rm_X7_told : Room := { frames := 1, cells := 0, slots := 0, locals := 22 }
theorem rf_X7_told_X7_in : RF rm_X7_in rm_X7_told 3 := ⟨⟨by decide, by decide⟩, rfl, rfl⟩
def f_X7_told (K : KT) (P : PT) (l0 : Nat) (l1 : Int32) (V : VT) : Option (Int32 × VT) :=
  cS (f_X7_in K P l1 ((10 : Int32)) ((14 : Int32)) V) fun x2 V1 => if x2 = 0 then (cS (f_X7_in K P l1 ((20 : Int32)) ((31 : Int32)) V1) fun x4 V3 => if x4 = 0 then (if l1 = 0 then (gI K V3 l0 5 0 fun x7 => some (x7, V3)) else (if l1 = ((1 : Int32)) then (gI K V3 l0 5 9 fun x6 => some (x6, V3)) else (if l1 = ((2 : Int32)) then (gI K V3 l0 5 7 fun x5 => some (x5, V3)) else (some ((-2 : Int32), V3))))) else (gI K V3 l0 5 9 fun x8 => if (l1 - ((20 : Int32))) < x8 then (gR K P l0 5 10 fun b9 => aI K V3 0 b9 (l1 - ((20 : Int32))) fun x10 => some (x10, V3)) else (some ((-6 : Int32), V3)))) else (gI K V1 l0 5 7 fun x11 => if (l1 - ((10 : Int32))) < x11 then (gR K P l0 5 8 fun b12 => aI K V1 0 b12 (l1 - ((10 : Int32))) fun x13 => some (x13, V1)) else (some ((-6 : Int32), V1)))
set_option maxRecDepth 20000 in
theorem w_X7_told_0 {g : GT} {K : KT} {P : PT} {res : Int32 × VT} (h : OK g RX7 cX7_told 2 (some .int)) {l0 : Nat} {l1 : Int32} {V : VT} (hf : f_X7_told K P l0 l1 V = some res) : J g rm_X7_told (QF g (some (.int res.1)) K P res.2 0 0) 2 K P V 0 0 0 [some (.ref l0), some (.int l1)] [] := by
  rw [f_X7_told] at hf
  refine j_iload_n (q := 1) h dX7_told_0 rfl rfl ?_
  refine j_bipush (q := 3) (10) h dX7_told_1 kb_10 rfl ?_
  refine j_bipush (q := 5) (14) h dX7_told_3 kb_14 rfl ?_
  refine j_cSi (q := 8) (As := [.int _, .int _, .int _]) h rfl hf (fun _ hx => ct_X7_in _ _ _ hx) ml_X7_63 sw_X7_in rf_X7_told_X7_in ⟨Nat.zero_le _, Nat.zero_le _⟩ (Nat.le_of_ble_eq_true rfl) dX7_told_5 rfl (fun _ _ hf => ?_)
  refine j_if_eq (q := 11) 37 h dX7_told_8 (by decide) rfl hf (fun hf => ?_) (fun hf => ?_)
  · refine j_iload_n (q := 38) h dX7_told_37 rfl rfl ?_
    refine j_bipush (q := 40) (20) h dX7_told_38 kb_20 rfl ?_
    refine j_bipush (q := 42) (31) h dX7_told_40 kb_31 rfl ?_
    refine j_cSi (q := 45) (As := [.int _, .int _, .int _]) h rfl hf (fun _ hx => ct_X7_in _ _ _ hx) ml_X7_63 sw_X7_in rf_X7_told_X7_in ⟨Nat.zero_le _, Nat.zero_le _⟩ (Nat.le_of_ble_eq_true rfl) dX7_told_42 rfl (fun _ _ hf => ?_)
    refine j_if_eq (q := 48) 74 h dX7_told_45 (by decide) rfl hf (fun hf => ?_) (fun hf => ?_)
    · refine j_iload_n (q := 75) h dX7_told_74 rfl rfl ?_
      refine j_if_ne (q := 78) 85 h dX7_told_75 (by decide) rfl hf (fun hf => ?_) (fun hf => ?_)
      · refine j_iload_n (q := 86) h dX7_told_85 rfl rfl ?_
        refine j_iconst (q := 87) (1) h dX7_told_86 ki_1 rfl ?_
        refine j_icmp_ne (q := 90) 97 h dX7_told_87 (by decide) rfl hf (fun hf => ?_) (fun hf => ?_)
        · refine j_iload_n (q := 98) h dX7_told_97 rfl rfl ?_
          refine j_iconst (q := 99) (2) h dX7_told_98 ki_2 rfl ?_
          refine j_icmp_ne (q := 102) 109 h dX7_told_99 (by decide) rfl hf (fun hf => ?_) (fun hf => ?_)
          · refine j_bipush (q := 111) (-2) h dX7_told_109 kb_m2 rfl ?_
            exact j_iret h dX7_told_111 hf
          · refine j_aload_n (q := 103) h dX7_told_102 rfl rfl ?_
            refine j_gI (q := 106) h uin_X7 rfl rfl (by decide) rfl fl_X7_84 dX7_told_103 rfl hf (fun hf => ?_)
            refine j_goto 111 h dX7_told_106 (by decide) ?_
            exact j_iret h dX7_told_111 hf
        · refine j_aload_n (q := 91) h dX7_told_90 rfl rfl ?_
          refine j_gI (q := 94) h uin_X7 rfl rfl (by decide) rfl fl_X7_31 dX7_told_91 rfl hf (fun hf => ?_)
          refine j_goto 111 h dX7_told_94 (by decide) ?_
          exact j_iret h dX7_told_111 hf
      · refine j_aload_n (q := 79) h dX7_told_78 rfl rfl ?_
        refine j_gI (q := 82) h uin_X7 rfl rfl (by decide) rfl fl_X7_67 dX7_told_79 rfl hf (fun hf => ?_)
        refine j_goto 111 h dX7_told_82 (by decide) ?_
        exact j_iret h dX7_told_111 hf
    · refine j_iload_n (q := 49) h dX7_told_48 rfl rfl ?_
      refine j_bipush (q := 51) (20) h dX7_told_49 kb_20 rfl ?_
      refine j_isub (q := 52) h dX7_told_51 rfl ?_
      refine j_aload_n (q := 53) h dX7_told_52 rfl rfl ?_
      refine j_gI (q := 56) h uin_X7 rfl rfl (by decide) rfl fl_X7_31 dX7_told_53 rfl hf (fun hf => ?_)
      refine j_icmp_ge (q := 59) 71 h dX7_told_56 (by decide) rfl hf (fun hf => ?_) (fun hf => ?_)
      · refine j_bipush (q := 73) (-6) h dX7_told_71 kb_m6 rfl ?_
        exact j_iret h dX7_told_73 hf
      · refine j_aload_n (q := 60) h dX7_told_59 rfl rfl ?_
        refine j_gR (q := 63) h uin_X7 rfl rfl (by decide) rfl fl_X7_35 dX7_told_60 rfl hf (fun b9 hf => ?_)
        refine j_iload_n (q := 64) h dX7_told_63 rfl rfl ?_
        refine j_bipush (q := 66) (20) h dX7_told_64 kb_20 rfl ?_
        refine j_isub (q := 67) h dX7_told_66 rfl ?_
        refine j_iald (q := 68) h dX7_told_67 rfl hf (fun hf => ?_)
        refine j_goto 73 h dX7_told_68 (by decide) ?_
        exact j_iret h dX7_told_73 hf
  · refine j_iload_n (q := 12) h dX7_told_11 rfl rfl ?_
    refine j_bipush (q := 14) (10) h dX7_told_12 kb_10 rfl ?_
    refine j_isub (q := 15) h dX7_told_14 rfl ?_
    refine j_aload_n (q := 16) h dX7_told_15 rfl rfl ?_
    refine j_gI (q := 19) h uin_X7 rfl rfl (by decide) rfl fl_X7_84 dX7_told_16 rfl hf (fun hf => ?_)
    refine j_icmp_ge (q := 22) 34 h dX7_told_19 (by decide) rfl hf (fun hf => ?_) (fun hf => ?_)
    · refine j_bipush (q := 36) (-6) h dX7_told_34 kb_m6 rfl ?_
      exact j_iret h dX7_told_36 hf
    · refine j_aload_n (q := 23) h dX7_told_22 rfl rfl ?_
      refine j_gR (q := 26) h uin_X7 rfl rfl (by decide) rfl fl_X7_28 dX7_told_23 rfl hf (fun b12 hf => ?_)
      refine j_iload_n (q := 27) h dX7_told_26 rfl rfl ?_
      refine j_bipush (q := 29) (10) h dX7_told_27 kb_10 rfl ?_
      refine j_isub (q := 30) h dX7_told_29 rfl ?_
      refine j_iald (q := 31) h dX7_told_30 rfl hf (fun hf => ?_)
      refine j_goto 36 h dX7_told_31 (by decide) ?_
      exact j_iret h dX7_told_36 hf
theorem ct_X7_told (l : Launch) (D : va_G) (T : TT) {K : KT} {P : PT} {l0 : Nat} {l1 : Int32} {V : VT} {res : Int32 × VT} (hf : f_X7_told K P l0 l1 V = some res) : CT l D T yX7_told cX7_told 2 (some .int) rm_X7_told K P V [.ref l0, .int l1] (some (.int res.1)) res.2 :=
  fun _ => CT_of pn_X7 (cat_a (cat_i cat_0)) (Nat.le_of_ble_eq_true rfl) [some (.ref l0), some (.int l1)] rfl (fun _ _ _ h => w_X7_told_0 h hf)
