/-! QuotedLayersModel.layText()V -/
def rm_X7_layText : Room := { frames := 0, cells := 0, slots := 0, locals := 0 }
def f_X7_layText_10 (K : KT) (P : PT) : Nat → Nat → Int32 → VT → Option (Unit × VT)
  | 0, _, _, _ => none
  | n + 1, l0, l1, V => gI K V l0 5 9 fun x1 => if l1 < x1 then (gR K P l0 5 12 fun b2 => gR K P l0 5 10 fun b3 => aI K V 0 b3 l1 fun x4 => sA K V b2 l1 x4 fun V5 => (f_X7_layText_10 K P n) l0 (l1 + (1 : Int32)) V5) else (some ((), V))
def f_X7_layText (K : KT) (P : PT) (l0 : Nat) (V : VT) : Option (Unit × VT) :=
  gI K V l0 5 9 fun x1 => sI K V l0 5 11 x1 fun V2 => f_X7_layText_10 K P FU l0 ((0 : Int32)) V2
set_option maxRecDepth 20000 in
theorem w_X7_layText_10 {g : GT} {K : KT} {P : PT} {res : Unit × VT} (h : OK g RX7 cX7_layText 2 none) : ∀ (n : Nat) (l0 : Nat) (l1 : Int32) (V : VT), f_X7_layText_10 K P n l0 l1 V = some res → J g rm_X7_layText (QF g none K P res.2 0 0) 2 K P V 0 0 10 [some (.ref l0), some (.int l1)] [] := by
  intro n
  induction n with
  | zero => intro l0 l1 V hf; rw [f_X7_layText_10] at hf; cases hf
  | succ n ih =>
    intro l0 l1 V hf
    rw [f_X7_layText_10] at hf
    refine j_iload_n (q := 11) h dX7_layText_10 rfl rfl ?_
    refine j_aload_n (q := 12) h dX7_layText_11 rfl rfl ?_
    refine j_gI (q := 15) h uin_X7 rfl rfl (by decide) rfl fl_X7_31 dX7_layText_12 rfl hf (fun hf => ?_)
    refine j_icmp_ge (q := 18) 36 h dX7_layText_15 (by decide) rfl hf (fun hf => ?_) (fun hf => ?_)
    · exact j_vret h dX7_layText_36 hf
    · refine j_aload_n (q := 19) h dX7_layText_18 rfl rfl ?_
      refine j_gR (q := 22) h uin_X7 rfl rfl (by decide) rfl fl_X7_38 dX7_layText_19 rfl hf (fun b2 hf => ?_)
      refine j_iload_n (q := 23) h dX7_layText_22 rfl rfl ?_
      refine j_aload_n (q := 24) h dX7_layText_23 rfl rfl ?_
      refine j_gR (q := 27) h uin_X7 rfl rfl (by decide) rfl fl_X7_35 dX7_layText_24 rfl hf (fun b3 hf => ?_)
      refine j_iload_n (q := 28) h dX7_layText_27 rfl rfl ?_
      refine j_iald (q := 29) h dX7_layText_28 rfl hf (fun hf => ?_)
      refine j_iast (q := 30) h dX7_layText_29 rfl hf (fun hf => ?_)
      refine j_iinc (q := 33) _ [_, _] h dX7_layText_30 rfl (by decide) rfl (kc_1 _) rfl rfl ?_
      refine j_goto 10 h dX7_layText_33 (by decide) ?_
      exact j_sub (lsub_s (lsub_s lsub_0)) (ih _ _ _ hf)
set_option maxRecDepth 20000 in
theorem w_X7_layText_0 {g : GT} {K : KT} {P : PT} {res : Unit × VT} (h : OK g RX7 cX7_layText 2 none) {l0 : Nat} {V : VT} (hf : f_X7_layText K P l0 V = some res) : J g rm_X7_layText (QF g none K P res.2 0 0) 2 K P V 0 0 0 [some (.ref l0), none] [] := by
  rw [f_X7_layText] at hf
  refine j_aload_n (q := 1) h dX7_layText_0 rfl rfl ?_
  refine j_aload_n (q := 2) h dX7_layText_1 rfl rfl ?_
  refine j_gI (q := 5) h uin_X7 rfl rfl (by decide) rfl fl_X7_31 dX7_layText_2 rfl hf (fun hf => ?_)
  refine j_sI (q := 8) h tyX7 tyX7_ok nmX7 uin_X7 rfl rfl (by decide) rfl rfl (by decide +kernel) fl_X7_94 dX7_layText_5 rfl hf (fun hf => ?_)
  refine j_iconst (q := 9) (0) h dX7_layText_8 ki_0 rfl ?_
  refine j_istore_n (q := 10) [_, _] h dX7_layText_9 rfl (by decide) rfl rfl ?_
  exact j_sub (lsub_s (lsub_s lsub_0)) (w_X7_layText_10 h FU _ _ _ hf)
theorem ct_X7_layText (l : Launch) (D : va_G) (T : TT) {K : KT} {P : PT} {l0 : Nat} {V : VT} {res : Unit × VT} (hf : f_X7_layText K P l0 V = some res) : CT l D T yX7_layText cX7_layText 2 none rm_X7_layText K P V [.ref l0] none res.2 :=
  fun _ => CT_of pn_X7 (cat_a cat_0) (Nat.le_of_ble_eq_true rfl) [some (.ref l0), none] rfl (fun _ _ _ h => w_X7_layText_0 h hf)
/-! QuotedLayersModel.goThrough(II)I -/
def rm_X7_goThrough : Room := { frames := 3, cells := 0, slots := 0, locals := 72 }
theorem rf_X7_goThrough_X7_put : RF rm_X7_put rm_X7_goThrough 7 := ⟨⟨by decide, by decide⟩, rfl, rfl⟩
def f_X7_goThrough_29 (K : KT) (P : PT) (k2 : Nat → Int32 → Int32 → Int32 → VT → Option (Int32 × VT)) (l0 : Nat) (l1 : Int32) (l2 : Int32) (l3 : Int32) (s0 : Nat) (s1 : Int32) (s2 : Int32) (V : VT) : Option (Int32 × VT) :=
  cV K s0 5 (f_X7_put K P s0 s1 s2 V) fun x2 V1 => if x2 < 0 then (some (x2, V1)) else (k2 l0 l1 l2 (l3 + (1 : Int32)) V1)
def f_X7_goThrough_2 (K : KT) (P : PT) : Nat → Nat → Int32 → Int32 → Int32 → VT → Option (Int32 × VT)
  | 0, _, _, _, _, _ => none
  | n + 1, l0, l1, l2, l3, V => if l3 < l1 then (sI K V l0 5 14 l3 fun V1 => gR K P l0 5 8 fun b2 => aI K V1 0 b2 l3 fun x3 => if l3 = l2 then (f_X7_goThrough_29 K P (f_X7_goThrough_2 K P n) l0 l1 l2 l3 l0 x3 ((1 : Int32)) V1) else (f_X7_goThrough_29 K P (f_X7_goThrough_2 K P n) l0 l1 l2 l3 l0 x3 ((0 : Int32)) V1)) else (some ((0 : Int32), V))
def f_X7_goThrough (K : KT) (P : PT) (l0 : Nat) (l1 : Int32) (l2 : Int32) (V : VT) : Option (Int32 × VT) :=
  f_X7_goThrough_2 K P FU l0 l1 l2 ((0 : Int32)) V
set_option maxRecDepth 20000 in
theorem w_X7_goThrough_29 {g : GT} {K : KT} {P : PT} {res : Int32 × VT} (h : OK g RX7 cX7_goThrough 5 (some .int)) {k2 : Nat → Int32 → Int32 → Int32 → VT → Option (Int32 × VT)} (hk2 : ∀ (l0 : Nat) (l1 : Int32) (l2 : Int32) (l3 : Int32) (V : VT), k2 l0 l1 l2 l3 V = some res → J g rm_X7_goThrough (QF g (some (.int res.1)) K P res.2 0 0) 5 K P V 0 0 2 [some (.ref l0), some (.int l1), some (.int l2), some (.int l3), none] []) {l0 : Nat} {l1 : Int32} {l2 : Int32} {l3 : Int32} {s0 : Nat} {s1 : Int32} {s2 : Int32} {V : VT} (hf : f_X7_goThrough_29 K P k2 l0 l1 l2 l3 s0 s1 s2 V = some res) : J g rm_X7_goThrough (QF g (some (.int res.1)) K P res.2 0 0) 5 K P V 0 0 29 [some (.ref l0), some (.int l1), some (.int l2), some (.int l3), none] [.int s2, .int s1, .ref s0] := by
  rw [f_X7_goThrough_29] at hf
  refine j_cVi (q := 32) (As := [.int _, .int _]) h rfl hf (fun _ hx => ct_X7_put _ _ _ hx) ml_X7_107 vw_X7_put rf_X7_goThrough_X7_put ⟨Nat.zero_le _, Nat.zero_le _⟩ (Nat.le_of_ble_eq_true rfl) dX7_goThrough_29 rfl (fun _ _ hf => ?_)
  refine j_istore (q := 34) [_, _, _, _, _] h dX7_goThrough_32 rfl (by decide) rfl rfl ?_
  refine j_iload (q := 36) h dX7_goThrough_34 rfl rfl ?_
  refine j_if_ge (q := 39) 42 h dX7_goThrough_36 (by decide) rfl hf (fun hf => ?_) (fun hf => ?_)
  · refine j_iinc (q := 45) _ [_, _, _, _, _] h dX7_goThrough_42 rfl (by decide) rfl (kc_1 _) rfl rfl ?_
    refine j_goto 2 h dX7_goThrough_45 (by decide) ?_
    exact j_sub (lsub_s (lsub_s (lsub_s (lsub_s (lsub_n lsub_0))))) (hk2 _ _ _ _ _ hf)
  · refine j_iload (q := 41) h dX7_goThrough_39 rfl rfl ?_
    exact j_iret h dX7_goThrough_41 hf
set_option maxRecDepth 20000 in
theorem w_X7_goThrough_2 {g : GT} {K : KT} {P : PT} {res : Int32 × VT} (h : OK g RX7 cX7_goThrough 5 (some .int)) : ∀ (n : Nat) (l0 : Nat) (l1 : Int32) (l2 : Int32) (l3 : Int32) (V : VT), f_X7_goThrough_2 K P n l0 l1 l2 l3 V = some res → J g rm_X7_goThrough (QF g (some (.int res.1)) K P res.2 0 0) 5 K P V 0 0 2 [some (.ref l0), some (.int l1), some (.int l2), some (.int l3), none] [] := by
  intro n
  induction n with
  | zero => intro l0 l1 l2 l3 V hf; rw [f_X7_goThrough_2] at hf; cases hf
  | succ n ih =>
    intro l0 l1 l2 l3 V hf
    rw [f_X7_goThrough_2] at hf
    refine j_iload_n (q := 3) h dX7_goThrough_2 rfl rfl ?_
    refine j_iload_n (q := 4) h dX7_goThrough_3 rfl rfl ?_
    refine j_icmp_ge (q := 7) 48 h dX7_goThrough_4 (by decide) rfl hf (fun hf => ?_) (fun hf => ?_)
    · refine j_iconst (q := 49) (0) h dX7_goThrough_48 ki_0 rfl ?_
      exact j_iret h dX7_goThrough_49 hf
    · refine j_aload_n (q := 8) h dX7_goThrough_7 rfl rfl ?_
      refine j_iload_n (q := 9) h dX7_goThrough_8 rfl rfl ?_
      refine j_sI (q := 12) h tyX7 tyX7_ok nmX7 uin_X7 rfl rfl (by decide) rfl rfl (by decide +kernel) fl_X7_104 dX7_goThrough_9 rfl hf (fun hf => ?_)
      refine j_aload_n (q := 13) h dX7_goThrough_12 rfl rfl ?_
      refine j_aload_n (q := 14) h dX7_goThrough_13 rfl rfl ?_
      refine j_gR (q := 17) h uin_X7 rfl rfl (by decide) rfl fl_X7_28 dX7_goThrough_14 rfl hf (fun b2 hf => ?_)
      refine j_iload_n (q := 18) h dX7_goThrough_17 rfl rfl ?_
      refine j_iald (q := 19) h dX7_goThrough_18 rfl hf (fun hf => ?_)
      refine j_iload_n (q := 20) h dX7_goThrough_19 rfl rfl ?_
      refine j_iload_n (q := 21) h dX7_goThrough_20 rfl rfl ?_
      refine j_icmp_ne (q := 24) 28 h dX7_goThrough_21 (by decide) rfl hf (fun hf => ?_) (fun hf => ?_)
      · refine j_iconst (q := 29) (0) h dX7_goThrough_28 ki_0 rfl ?_
        exact j_sub (lsub_s (lsub_s (lsub_s (lsub_s (lsub_n lsub_0))))) (w_X7_goThrough_29 h ih hf)
      · refine j_iconst (q := 25) (1) h dX7_goThrough_24 ki_1 rfl ?_
        refine j_goto 29 h dX7_goThrough_25 (by decide) ?_
        exact j_sub (lsub_s (lsub_s (lsub_s (lsub_s (lsub_n lsub_0))))) (w_X7_goThrough_29 h ih hf)
set_option maxRecDepth 20000 in
theorem w_X7_goThrough_0 {g : GT} {K : KT} {P : PT} {res : Int32 × VT} (h : OK g RX7 cX7_goThrough 5 (some .int)) {l0 : Nat} {l1 : Int32} {l2 : Int32} {V : VT} (hf : f_X7_goThrough K P l0 l1 l2 V = some res) : J g rm_X7_goThrough (QF g (some (.int res.1)) K P res.2 0 0) 5 K P V 0 0 0 [some (.ref l0), some (.int l1), some (.int l2), none, none] [] := by
  rw [f_X7_goThrough] at hf
  refine j_iconst (q := 1) (0) h dX7_goThrough_0 ki_0 rfl ?_
  refine j_istore_n (q := 2) [_, _, _, _, _] h dX7_goThrough_1 rfl (by decide) rfl rfl ?_
  exact j_sub (lsub_s (lsub_s (lsub_s (lsub_s (lsub_n lsub_0))))) (w_X7_goThrough_2 h FU _ _ _ _ _ hf)
theorem ct_X7_goThrough (l : Launch) (D : va_G) (T : TT) {K : KT} {P : PT} {l0 : Nat} {l1 : Int32} {l2 : Int32} {V : VT} {res : Int32 × VT} (hf : f_X7_goThrough K P l0 l1 l2 V = some res) : CT l D T yX7_goThrough cX7_goThrough 5 (some .int) rm_X7_goThrough K P V [.ref l0, .int l1, .int l2] (some (.int res.1)) res.2 :=
  fun _ => CT_of pn_X7 (cat_a (cat_i (cat_i cat_0))) (Nat.le_of_ble_eq_true rfl) [some (.ref l0), some (.int l1), some (.int l2), none, none] rfl (fun _ _ _ h => w_X7_goThrough_0 h hf)
/-! QuotedLayersModel.behind(II)I -/
def rm_X7_behind : Room := { frames := 4, cells := 0, slots := 0, locals := 96 }
theorem rf_X7_behind_X7_goThrough : RF rm_X7_goThrough rm_X7_behind 5 := ⟨⟨by decide, by decide⟩, rfl, rfl⟩
theorem rf_X7_behind_X7_in : RF rm_X7_in rm_X7_behind 3 := ⟨⟨by decide, by decide⟩, rfl, rfl⟩
theorem rf_X7_behind_X7_layText : RF rm_X7_layText rm_X7_behind 2 := ⟨⟨by decide, by decide⟩, rfl, rfl⟩
def f_X7_behind (K : KT) (P : PT) (l0 : Nat) (l1 : Int32) (l2 : Int32) (V : VT) : Option (Int32 × VT) :=
  gI K V l0 5 7 fun x1 => cS (f_X7_in K P l1 ((0 : Int32)) x1 V) fun x3 V2 => if x3 = 0 then (some ((-2 : Int32), V2)) else (cV K l0 5 (f_X7_layText K P l0 V2) fun u5 V4 => cV K l0 5 (f_X7_goThrough K P l0 l1 ((-6 : Int32)) V4) fun x7 V6 => if x7 < 0 then (some (x7, V6)) else (if l2 = ((-1 : Int32)) then (gI K V6 l0 5 11 fun x13 => some (x13, V6)) else (gI K V6 l0 5 11 fun x8 => cS (f_X7_in K P l2 ((0 : Int32)) (x8 - ((1 : Int32))) V6) fun x10 V9 => if x10 = 0 then (some ((-6 : Int32), V9)) else (gR K P l0 5 12 fun b11 => aI K V9 0 b11 l2 fun x12 => some (x12, V9)))))
set_option maxRecDepth 20000 in
theorem w_X7_behind_0 {g : GT} {K : KT} {P : PT} {res : Int32 × VT} (h : OK g RX7 cX7_behind 4 (some .int)) {l0 : Nat} {l1 : Int32} {l2 : Int32} {V : VT} (hf : f_X7_behind K P l0 l1 l2 V = some res) : J g rm_X7_behind (QF g (some (.int res.1)) K P res.2 0 0) 4 K P V 0 0 0 [some (.ref l0), some (.int l1), some (.int l2), none] [] := by
  rw [f_X7_behind] at hf
  refine j_iload_n (q := 1) h dX7_behind_0 rfl rfl ?_
  refine j_iconst (q := 2) (0) h dX7_behind_1 ki_0 rfl ?_
  refine j_aload_n (q := 3) h dX7_behind_2 rfl rfl ?_
  refine j_gI (q := 6) h uin_X7 rfl rfl (by decide) rfl fl_X7_84 dX7_behind_3 rfl hf (fun hf => ?_)
  refine j_cSi (q := 9) (As := [.int _, .int _, .int _]) h rfl hf (fun _ hx => ct_X7_in _ _ _ hx) ml_X7_63 sw_X7_in rf_X7_behind_X7_in ⟨Nat.zero_le _, Nat.zero_le _⟩ (Nat.le_of_ble_eq_true rfl) dX7_behind_6 rfl (fun _ _ hf => ?_)
  refine j_if_ne (q := 12) 15 h dX7_behind_9 (by decide) rfl hf (fun hf => ?_) (fun hf => ?_)
  · refine j_aload_n (q := 16) h dX7_behind_15 rfl rfl ?_
    refine j_cVv (q := 19) (As := []) h rfl hf (fun _ hx => ct_X7_layText _ _ _ hx) ml_X7_111 vw_X7_layText rf_X7_behind_X7_layText ⟨Nat.zero_le _, Nat.zero_le _⟩ (Nat.le_of_ble_eq_true rfl) dX7_behind_16 rfl (fun _ _ hf => ?_)
    refine j_aload_n (q := 20) h dX7_behind_19 rfl rfl ?_
    refine j_iload_n (q := 21) h dX7_behind_20 rfl rfl ?_
    refine j_bipush (q := 23) (-6) h dX7_behind_21 kb_m6 rfl ?_
    refine j_cVi (q := 26) (As := [.int _, .int _]) h rfl hf (fun _ hx => ct_X7_goThrough _ _ _ hx) ml_X7_114 vw_X7_goThrough rf_X7_behind_X7_goThrough ⟨Nat.zero_le _, Nat.zero_le _⟩ (Nat.le_of_ble_eq_true rfl) dX7_behind_23 rfl (fun _ _ hf => ?_)
    refine j_istore_n (q := 27) [_, _, _, _] h dX7_behind_26 rfl (by decide) rfl rfl ?_
    refine j_iload_n (q := 28) h dX7_behind_27 rfl rfl ?_
    refine j_if_ge (q := 31) 33 h dX7_behind_28 (by decide) rfl hf (fun hf => ?_) (fun hf => ?_)
    · refine j_iload_n (q := 34) h dX7_behind_33 rfl rfl ?_
      refine j_iconst (q := 35) (-1) h dX7_behind_34 ki_m1 rfl ?_
      refine j_icmp_ne (q := 38) 45 h dX7_behind_35 (by decide) rfl hf (fun hf => ?_) (fun hf => ?_)
      · refine j_iload_n (q := 46) h dX7_behind_45 rfl rfl ?_
        refine j_iconst (q := 47) (0) h dX7_behind_46 ki_0 rfl ?_
        refine j_aload_n (q := 48) h dX7_behind_47 rfl rfl ?_
        refine j_gI (q := 51) h uin_X7 rfl rfl (by decide) rfl fl_X7_94 dX7_behind_48 rfl hf (fun hf => ?_)
        refine j_iconst (q := 52) (1) h dX7_behind_51 ki_1 rfl ?_
        refine j_isub (q := 53) h dX7_behind_52 rfl ?_
        refine j_cSi (q := 56) (As := [.int _, .int _, .int _]) h rfl hf (fun _ hx => ct_X7_in _ _ _ hx) ml_X7_63 sw_X7_in rf_X7_behind_X7_in ⟨Nat.zero_le _, Nat.zero_le _⟩ (Nat.le_of_ble_eq_true rfl) dX7_behind_53 rfl (fun _ _ hf => ?_)
        refine j_if_eq (q := 59) 68 h dX7_behind_56 (by decide) rfl hf (fun hf => ?_) (fun hf => ?_)
        · refine j_bipush (q := 70) (-6) h dX7_behind_68 kb_m6 rfl ?_
          exact j_iret h dX7_behind_70 hf
        · refine j_aload_n (q := 60) h dX7_behind_59 rfl rfl ?_
          refine j_gR (q := 63) h uin_X7 rfl rfl (by decide) rfl fl_X7_38 dX7_behind_60 rfl hf (fun b11 hf => ?_)
          refine j_iload_n (q := 64) h dX7_behind_63 rfl rfl ?_
          refine j_iald (q := 65) h dX7_behind_64 rfl hf (fun hf => ?_)
          refine j_goto 70 h dX7_behind_65 (by decide) ?_
          exact j_iret h dX7_behind_70 hf
      · refine j_aload_n (q := 39) h dX7_behind_38 rfl rfl ?_
        refine j_gI (q := 42) h uin_X7 rfl rfl (by decide) rfl fl_X7_94 dX7_behind_39 rfl hf (fun hf => ?_)
        refine j_goto 70 h dX7_behind_42 (by decide) ?_
        exact j_iret h dX7_behind_70 hf
    · refine j_iload_n (q := 32) h dX7_behind_31 rfl rfl ?_
      exact j_iret h dX7_behind_32 hf
  · refine j_bipush (q := 14) (-2) h dX7_behind_12 kb_m2 rfl ?_
    exact j_iret h dX7_behind_14 hf
theorem ct_X7_behind (l : Launch) (D : va_G) (T : TT) {K : KT} {P : PT} {l0 : Nat} {l1 : Int32} {l2 : Int32} {V : VT} {res : Int32 × VT} (hf : f_X7_behind K P l0 l1 l2 V = some res) : CT l D T yX7_behind cX7_behind 4 (some .int) rm_X7_behind K P V [.ref l0, .int l1, .int l2] (some (.int res.1)) res.2 :=
  fun _ => CT_of pn_X7 (cat_a (cat_i (cat_i cat_0))) (Nat.le_of_ble_eq_true rfl) [some (.ref l0), some (.int l1), some (.int l2), none] rfl (fun _ _ _ h => w_X7_behind_0 h hf)
/-! QuotedLayersModel.barred()I -/
def rm_X7_barred : Room := { frames := 4, cells := 0, slots := 0, locals := 96 }
theorem rf_X7_barred_X7_goThrough : RF rm_X7_goThrough rm_X7_barred 5 := ⟨⟨by decide, by decide⟩, rfl, rfl⟩
theorem rf_X7_barred_X7_layText : RF rm_X7_layText rm_X7_barred 2 := ⟨⟨by decide, by decide⟩, rfl, rfl⟩
def f_X7_barred (K : KT) (P : PT) (l0 : Nat) (V : VT) : Option (Int32 × VT) :=
  cV K l0 5 (f_X7_layText K P l0 V) fun u2 V1 => gI K V1 l0 5 7 fun x3 => cV K l0 5 (f_X7_goThrough K P l0 x3 ((-6 : Int32)) V1) fun x5 V4 => if x5 = ((-5 : Int32)) then (gI K V4 l0 5 14 fun x6 => some (x6, V4)) else (if x5 = ((-7 : Int32)) then (some ((-7 : Int32), V4)) else (some ((-6 : Int32), V4)))
set_option maxRecDepth 20000 in
theorem w_X7_barred_0 {g : GT} {K : KT} {P : PT} {res : Int32 × VT} (h : OK g RX7 cX7_barred 2 (some .int)) {l0 : Nat} {V : VT} (hf : f_X7_barred K P l0 V = some res) : J g rm_X7_barred (QF g (some (.int res.1)) K P res.2 0 0) 2 K P V 0 0 0 [some (.ref l0), none] [] := by
  rw [f_X7_barred] at hf
  refine j_aload_n (q := 1) h dX7_barred_0 rfl rfl ?_
  refine j_cVv (q := 4) (As := []) h rfl hf (fun _ hx => ct_X7_layText _ _ _ hx) ml_X7_111 vw_X7_layText rf_X7_barred_X7_layText ⟨Nat.zero_le _, Nat.zero_le _⟩ (Nat.le_of_ble_eq_true rfl) dX7_barred_1 rfl (fun _ _ hf => ?_)
  refine j_aload_n (q := 5) h dX7_barred_4 rfl rfl ?_
  refine j_aload_n (q := 6) h dX7_barred_5 rfl rfl ?_
  refine j_gI (q := 9) h uin_X7 rfl rfl (by decide) rfl fl_X7_84 dX7_barred_6 rfl hf (fun hf => ?_)
  refine j_bipush (q := 11) (-6) h dX7_barred_9 kb_m6 rfl ?_
  refine j_cVi (q := 14) (As := [.int _, .int _]) h rfl hf (fun _ hx => ct_X7_goThrough _ _ _ hx) ml_X7_114 vw_X7_goThrough rf_X7_barred_X7_goThrough ⟨Nat.zero_le _, Nat.zero_le _⟩ (Nat.le_of_ble_eq_true rfl) dX7_barred_11 rfl (fun _ _ hf => ?_)
  refine j_istore_n (q := 15) [_, _] h dX7_barred_14 rfl (by decide) rfl rfl ?_
  refine j_iload_n (q := 16) h dX7_barred_15 rfl rfl ?_
  refine j_bipush (q := 18) (-5) h dX7_barred_16 kb_m5 rfl ?_
  refine j_icmp_ne (q := 21) 28 h dX7_barred_18 (by decide) rfl hf (fun hf => ?_) (fun hf => ?_)
  · refine j_iload_n (q := 29) h dX7_barred_28 rfl rfl ?_
    refine j_bipush (q := 31) (-7) h dX7_barred_29 kb_m7 rfl ?_
    refine j_icmp_ne (q := 34) 39 h dX7_barred_31 (by decide) rfl hf (fun hf => ?_) (fun hf => ?_)
    · refine j_bipush (q := 41) (-6) h dX7_barred_39 kb_m6 rfl ?_
      exact j_iret h dX7_barred_41 hf
    · refine j_bipush (q := 36) (-7) h dX7_barred_34 kb_m7 rfl ?_
      refine j_goto 41 h dX7_barred_36 (by decide) ?_
      exact j_iret h dX7_barred_41 hf
  · refine j_aload_n (q := 22) h dX7_barred_21 rfl rfl ?_
    refine j_gI (q := 25) h uin_X7 rfl rfl (by decide) rfl fl_X7_104 dX7_barred_22 rfl hf (fun hf => ?_)
    refine j_goto 41 h dX7_barred_25 (by decide) ?_
    exact j_iret h dX7_barred_41 hf
theorem ct_X7_barred (l : Launch) (D : va_G) (T : TT) {K : KT} {P : PT} {l0 : Nat} {V : VT} {res : Int32 × VT} (hf : f_X7_barred K P l0 V = some res) : CT l D T yX7_barred cX7_barred 2 (some .int) rm_X7_barred K P V [.ref l0] (some (.int res.1)) res.2 :=
  fun _ => CT_of pn_X7 (cat_a cat_0) (Nat.le_of_ble_eq_true rfl) [some (.ref l0), none] rfl (fun _ _ _ h => w_X7_barred_0 h hf)
/-! QuotedLayersModel.lengthOf(I)I -/
def rm_X7_lengthOf : Room := { frames := 4, cells := 0, slots := 0, locals := 96 }
theorem rf_X7_lengthOf_X7_goThrough : RF rm_X7_goThrough rm_X7_lengthOf 5 := ⟨⟨by decide, by decide⟩, rfl, rfl⟩
def f_X7_lengthOf (K : KT) (P : PT) (l0 : Nat) (l1 : Int32) (V : VT) : Option (Int32 × VT) :=
  sI K V l0 5 11 ((1 : Int32)) fun V1 => gR K P l0 5 12 fun b2 => sA K V1 b2 ((0 : Int32)) l1 fun V3 => gI K V3 l0 5 7 fun x4 => cV K l0 5 (f_X7_goThrough K P l0 x4 ((-6 : Int32)) V3) fun x6 V5 => if x6 < 0 then (some ((-6 : Int32), V5)) else (gI K V5 l0 5 11 fun x7 => some (x7, V5))
set_option maxRecDepth 20000 in
theorem w_X7_lengthOf_0 {g : GT} {K : KT} {P : PT} {res : Int32 × VT} (h : OK g RX7 cX7_lengthOf 2 (some .int)) {l0 : Nat} {l1 : Int32} {V : VT} (hf : f_X7_lengthOf K P l0 l1 V = some res) : J g rm_X7_lengthOf (QF g (some (.int res.1)) K P res.2 0 0) 2 K P V 0 0 0 [some (.ref l0), some (.int l1)] [] := by
  rw [f_X7_lengthOf] at hf
  refine j_aload_n (q := 1) h dX7_lengthOf_0 rfl rfl ?_
  refine j_iconst (q := 2) (1) h dX7_lengthOf_1 ki_1 rfl ?_
  refine j_sI (q := 5) h tyX7 tyX7_ok nmX7 uin_X7 rfl rfl (by decide) rfl rfl (by decide +kernel) fl_X7_94 dX7_lengthOf_2 rfl hf (fun hf => ?_)
  refine j_aload_n (q := 6) h dX7_lengthOf_5 rfl rfl ?_
  refine j_gR (q := 9) h uin_X7 rfl rfl (by decide) rfl fl_X7_38 dX7_lengthOf_6 rfl hf (fun b2 hf => ?_)
  refine j_iconst (q := 10) (0) h dX7_lengthOf_9 ki_0 rfl ?_
  refine j_iload_n (q := 11) h dX7_lengthOf_10 rfl rfl ?_
  refine j_iast (q := 12) h dX7_lengthOf_11 rfl hf (fun hf => ?_)
  refine j_aload_n (q := 13) h dX7_lengthOf_12 rfl rfl ?_
  refine j_aload_n (q := 14) h dX7_lengthOf_13 rfl rfl ?_
  refine j_gI (q := 17) h uin_X7 rfl rfl (by decide) rfl fl_X7_84 dX7_lengthOf_14 rfl hf (fun hf => ?_)
  refine j_bipush (q := 19) (-6) h dX7_lengthOf_17 kb_m6 rfl ?_
  refine j_cVi (q := 22) (As := [.int _, .int _]) h rfl hf (fun _ hx => ct_X7_goThrough _ _ _ hx) ml_X7_114 vw_X7_goThrough rf_X7_lengthOf_X7_goThrough ⟨Nat.zero_le _, Nat.zero_le _⟩ (Nat.le_of_ble_eq_true rfl) dX7_lengthOf_19 rfl (fun _ _ hf => ?_)
  refine j_if_ge (q := 25) 30 h dX7_lengthOf_22 (by decide) rfl hf (fun hf => ?_) (fun hf => ?_)
  · refine j_aload_n (q := 31) h dX7_lengthOf_30 rfl rfl ?_
    refine j_gI (q := 34) h uin_X7 rfl rfl (by decide) rfl fl_X7_94 dX7_lengthOf_31 rfl hf (fun hf => ?_)
    exact j_iret h dX7_lengthOf_34 hf
  · refine j_bipush (q := 27) (-6) h dX7_lengthOf_25 kb_m6 rfl ?_
    refine j_goto 34 h dX7_lengthOf_27 (by decide) ?_
    exact j_iret h dX7_lengthOf_34 hf
theorem ct_X7_lengthOf (l : Launch) (D : va_G) (T : TT) {K : KT} {P : PT} {l0 : Nat} {l1 : Int32} {V : VT} {res : Int32 × VT} (hf : f_X7_lengthOf K P l0 l1 V = some res) : CT l D T yX7_lengthOf cX7_lengthOf 2 (some .int) rm_X7_lengthOf K P V [.ref l0, .int l1] (some (.int res.1)) res.2 :=
  fun _ => CT_of pn_X7 (cat_a (cat_i cat_0)) (Nat.le_of_ble_eq_true rfl) [some (.ref l0), some (.int l1)] rfl (fun _ _ _ h => w_X7_lengthOf_0 h hf)
/-! QuotedLayersModel.growsOf(I)I -/
def rm_X7_growsOf : Room := { frames := 5, cells := 0, slots := 0, locals := 117 }
theorem rf_X7_growsOf_X7_lengthOf : RF rm_X7_lengthOf rm_X7_growsOf 2 := ⟨⟨by decide, by decide⟩, rfl, rfl⟩
def f_X7_growsOf_21 (K : KT) (P : PT)  (V : VT) : Option (Int32 × VT) :=
  some ((-6 : Int32), V)
def f_X7_growsOf (K : KT) (P : PT) (l0 : Nat) (l1 : Int32) (V : VT) : Option (Int32 × VT) :=
  cV K l0 5 (f_X7_lengthOf K P l0 ((120 : Int32)) V) fun x2 V1 => cV K l0 5 (f_X7_lengthOf K P l0 l1 V1) fun x4 V3 => if x2 < 0 then (f_X7_growsOf_21 K P V3) else (if x4 < 0 then (f_X7_growsOf_21 K P V3) else (some ((x4 - x2) + ((1 : Int32)), V3)))
set_option maxRecDepth 20000 in
theorem w_X7_growsOf_21 {g : GT} {K : KT} {P : PT} {res : Int32 × VT} (h : OK g RX7 cX7_growsOf 4 (some .int))  {V : VT} (hf : f_X7_growsOf_21 K P  V = some res) : J g rm_X7_growsOf (QF g (some (.int res.1)) K P res.2 0 0) 4 K P V 0 0 21 [none, none, none, none] [] := by
  rw [f_X7_growsOf_21] at hf
  refine j_bipush (q := 23) (-6) h dX7_growsOf_21 kb_m6 rfl ?_
  refine j_goto 31 h dX7_growsOf_23 (by decide) ?_
  exact j_iret h dX7_growsOf_31 hf
set_option maxRecDepth 20000 in
theorem w_X7_growsOf_0 {g : GT} {K : KT} {P : PT} {res : Int32 × VT} (h : OK g RX7 cX7_growsOf 4 (some .int)) {l0 : Nat} {l1 : Int32} {V : VT} (hf : f_X7_growsOf K P l0 l1 V = some res) : J g rm_X7_growsOf (QF g (some (.int res.1)) K P res.2 0 0) 4 K P V 0 0 0 [some (.ref l0), some (.int l1), none, none] [] := by
  rw [f_X7_growsOf] at hf
  refine j_aload_n (q := 1) h dX7_growsOf_0 rfl rfl ?_
  refine j_bipush (q := 3) (120) h dX7_growsOf_1 kb_120 rfl ?_
  refine j_cVi (q := 6) (As := [.int _]) h rfl hf (fun _ hx => ct_X7_lengthOf _ _ _ hx) ml_X7_118 vw_X7_lengthOf rf_X7_growsOf_X7_lengthOf ⟨Nat.zero_le _, Nat.zero_le _⟩ (Nat.le_of_ble_eq_true rfl) dX7_growsOf_3 rfl (fun _ _ hf => ?_)
  refine j_istore_n (q := 7) [_, _, _, _] h dX7_growsOf_6 rfl (by decide) rfl rfl ?_
  refine j_aload_n (q := 8) h dX7_growsOf_7 rfl rfl ?_
  refine j_iload_n (q := 9) h dX7_growsOf_8 rfl rfl ?_
  refine j_cVi (q := 12) (As := [.int _]) h rfl hf (fun _ hx => ct_X7_lengthOf _ _ _ hx) ml_X7_118 vw_X7_lengthOf rf_X7_growsOf_X7_lengthOf ⟨Nat.zero_le _, Nat.zero_le _⟩ (Nat.le_of_ble_eq_true rfl) dX7_growsOf_9 rfl (fun _ _ hf => ?_)
  refine j_istore_n (q := 13) [_, _, _, _] h dX7_growsOf_12 rfl (by decide) rfl rfl ?_
  refine j_iload_n (q := 14) h dX7_growsOf_13 rfl rfl ?_
  refine j_if_lt (q := 17) 21 h dX7_growsOf_14 (by decide) rfl hf (fun hf => ?_) (fun hf => ?_)
  · exact j_sub (lsub_n (lsub_n (lsub_n (lsub_n lsub_0)))) (w_X7_growsOf_21 h hf)
  · refine j_iload_n (q := 18) h dX7_growsOf_17 rfl rfl ?_
    refine j_if_ge (q := 21) 26 h dX7_growsOf_18 (by decide) rfl hf (fun hf => ?_) (fun hf => ?_)
    · refine j_iload_n (q := 27) h dX7_growsOf_26 rfl rfl ?_
      refine j_iload_n (q := 28) h dX7_growsOf_27 rfl rfl ?_
      refine j_isub (q := 29) h dX7_growsOf_28 rfl ?_
      refine j_iconst (q := 30) (1) h dX7_growsOf_29 ki_1 rfl ?_
      refine j_iadd (q := 31) h dX7_growsOf_30 rfl ?_
      exact j_iret h dX7_growsOf_31 hf
    · exact j_sub (lsub_n (lsub_n (lsub_n (lsub_n lsub_0)))) (w_X7_growsOf_21 h hf)
theorem ct_X7_growsOf (l : Launch) (D : va_G) (T : TT) {K : KT} {P : PT} {l0 : Nat} {l1 : Int32} {V : VT} {res : Int32 × VT} (hf : f_X7_growsOf K P l0 l1 V = some res) : CT l D T yX7_growsOf cX7_growsOf 4 (some .int) rm_X7_growsOf K P V [.ref l0, .int l1] (some (.int res.1)) res.2 :=
  fun _ => CT_of pn_X7 (cat_a (cat_i cat_0)) (Nat.le_of_ble_eq_true rfl) [some (.ref l0), some (.int l1), none, none] rfl (fun _ _ _ h => w_X7_growsOf_0 h hf)
/-! QuotedLayersModel.grows(I)I -/
def rm_X7_grows : Room := { frames := 6, cells := 0, slots := 0, locals := 140 }
theorem rf_X7_grows_X7_growsOf : RF rm_X7_growsOf rm_X7_grows 4 := ⟨⟨by decide, by decide⟩, rfl, rfl⟩
theorem rf_X7_grows_X7_in : RF rm_X7_in rm_X7_grows 3 := ⟨⟨by decide, by decide⟩, rfl, rfl⟩
def f_X7_grows (K : KT) (P : PT) (l0 : Nat) (l1 : Int32) (V : VT) : Option (Int32 × VT) :=
  cS (f_X7_in K P l1 ((33 : Int32)) ((126 : Int32)) V) fun x2 V1 => if x2 = 0 then (some ((-2 : Int32), V1)) else (cV K l0 5 (f_X7_growsOf K P l0 l1 V1) fun x4 V3 => some (x4, V3))
set_option maxRecDepth 20000 in
theorem w_X7_grows_0 {g : GT} {K : KT} {P : PT} {res : Int32 × VT} (h : OK g RX7 cX7_grows 2 (some .int)) {l0 : Nat} {l1 : Int32} {V : VT} (hf : f_X7_grows K P l0 l1 V = some res) : J g rm_X7_grows (QF g (some (.int res.1)) K P res.2 0 0) 2 K P V 0 0 0 [some (.ref l0), some (.int l1)] [] := by
  rw [f_X7_grows] at hf
  refine j_iload_n (q := 1) h dX7_grows_0 rfl rfl ?_
  refine j_bipush (q := 3) (33) h dX7_grows_1 kb_33 rfl ?_
  refine j_bipush (q := 5) (126) h dX7_grows_3 kb_126 rfl ?_
  refine j_cSi (q := 8) (As := [.int _, .int _, .int _]) h rfl hf (fun _ hx => ct_X7_in _ _ _ hx) ml_X7_63 sw_X7_in rf_X7_grows_X7_in ⟨Nat.zero_le _, Nat.zero_le _⟩ (Nat.le_of_ble_eq_true rfl) dX7_grows_5 rfl (fun _ _ hf => ?_)
  refine j_if_eq (q := 11) 19 h dX7_grows_8 (by decide) rfl hf (fun hf => ?_) (fun hf => ?_)
  · refine j_bipush (q := 21) (-2) h dX7_grows_19 kb_m2 rfl ?_
    exact j_iret h dX7_grows_21 hf
  · refine j_aload_n (q := 12) h dX7_grows_11 rfl rfl ?_
    refine j_iload_n (q := 13) h dX7_grows_12 rfl rfl ?_
    refine j_cVi (q := 16) (As := [.int _]) h rfl hf (fun _ hx => ct_X7_growsOf _ _ _ hx) ml_X7_121 vw_X7_growsOf rf_X7_grows_X7_growsOf ⟨Nat.zero_le _, Nat.zero_le _⟩ (Nat.le_of_ble_eq_true rfl) dX7_grows_13 rfl (fun _ _ hf => ?_)
    refine j_goto 21 h dX7_grows_16 (by decide) ?_
    exact j_iret h dX7_grows_21 hf
theorem ct_X7_grows (l : Launch) (D : va_G) (T : TT) {K : KT} {P : PT} {l0 : Nat} {l1 : Int32} {V : VT} {res : Int32 × VT} (hf : f_X7_grows K P l0 l1 V = some res) : CT l D T yX7_grows cX7_grows 2 (some .int) rm_X7_grows K P V [.ref l0, .int l1] (some (.int res.1)) res.2 :=
  fun _ => CT_of pn_X7 (cat_a (cat_i cat_0)) (Nat.le_of_ble_eq_true rfl) [some (.ref l0), some (.int l1)] rfl (fun _ _ _ h => w_X7_grows_0 h hf)
/-! QuotedLayersModel.safe(I)I -/
def rm_X7_safe : Room := { frames := 6, cells := 0, slots := 0, locals := 140 }
theorem rf_X7_safe_X7_growsOf : RF rm_X7_growsOf rm_X7_safe 4 := ⟨⟨by decide, by decide⟩, rfl, rfl⟩
def f_X7_safe_30 (K : KT) (P : PT) (k5 : Nat → Int32 → Int32 → Int32 → VT → Option (Int32 × VT)) (l0 : Nat) (l1 : Int32) (l2 : Int32) (l3 : Int32) (V : VT) : Option (Int32 × VT) :=
  k5 l0 l1 l2 (l3 + (1 : Int32)) V
def f_X7_safe_5 (K : KT) (P : PT) : Nat → Nat → Int32 → Int32 → Int32 → VT → Option (Int32 × VT)
  | 0, _, _, _, _, _ => none
  | n + 1, l0, l1, l2, l3, V => if l3 < ((127 : Int32)) then (cV K l0 5 (f_X7_growsOf K P l0 l3 V) fun x2 V1 => if x2 = ((1 : Int32)) then (if l2 = l1 then (some (l3, V1)) else (f_X7_safe_30 K P (f_X7_safe_5 K P n) l0 l1 (l2 + (1 : Int32)) l3 V1)) else (f_X7_safe_30 K P (f_X7_safe_5 K P n) l0 l1 l2 l3 V1)) else (if l1 = ((-1 : Int32)) then (some (l2, V)) else (some ((-6 : Int32), V)))
def f_X7_safe (K : KT) (P : PT) (l0 : Nat) (l1 : Int32) (V : VT) : Option (Int32 × VT) :=
  f_X7_safe_5 K P FU l0 l1 ((0 : Int32)) ((33 : Int32)) V
set_option maxRecDepth 20000 in
theorem w_X7_safe_30 {g : GT} {K : KT} {P : PT} {res : Int32 × VT} (h : OK g RX7 cX7_safe 4 (some .int)) {k5 : Nat → Int32 → Int32 → Int32 → VT → Option (Int32 × VT)} (hk5 : ∀ (l0 : Nat) (l1 : Int32) (l2 : Int32) (l3 : Int32) (V : VT), k5 l0 l1 l2 l3 V = some res → J g rm_X7_safe (QF g (some (.int res.1)) K P res.2 0 0) 4 K P V 0 0 5 [some (.ref l0), some (.int l1), some (.int l2), some (.int l3)] []) {l0 : Nat} {l1 : Int32} {l2 : Int32} {l3 : Int32} {V : VT} (hf : f_X7_safe_30 K P k5 l0 l1 l2 l3 V = some res) : J g rm_X7_safe (QF g (some (.int res.1)) K P res.2 0 0) 4 K P V 0 0 30 [some (.ref l0), some (.int l1), some (.int l2), some (.int l3)] [] := by
  rw [f_X7_safe_30] at hf
  refine j_iinc (q := 33) _ [_, _, _, _] h dX7_safe_30 rfl (by decide) rfl (kc_1 _) rfl rfl ?_
  refine j_goto 5 h dX7_safe_33 (by decide) ?_
  exact j_sub (lsub_s (lsub_s (lsub_s (lsub_s lsub_0)))) (hk5 _ _ _ _ _ hf)
set_option maxRecDepth 20000 in
theorem w_X7_safe_5 {g : GT} {K : KT} {P : PT} {res : Int32 × VT} (h : OK g RX7 cX7_safe 4 (some .int)) : ∀ (n : Nat) (l0 : Nat) (l1 : Int32) (l2 : Int32) (l3 : Int32) (V : VT), f_X7_safe_5 K P n l0 l1 l2 l3 V = some res → J g rm_X7_safe (QF g (some (.int res.1)) K P res.2 0 0) 4 K P V 0 0 5 [some (.ref l0), some (.int l1), some (.int l2), some (.int l3)] [] := by
  intro n
  induction n with
  | zero => intro l0 l1 l2 l3 V hf; rw [f_X7_safe_5] at hf; cases hf
  | succ n ih =>
    intro l0 l1 l2 l3 V hf
    rw [f_X7_safe_5] at hf
    refine j_iload_n (q := 6) h dX7_safe_5 rfl rfl ?_
    refine j_bipush (q := 8) (127) h dX7_safe_6 kb_127 rfl ?_
    refine j_icmp_ge (q := 11) 36 h dX7_safe_8 (by decide) rfl hf (fun hf => ?_) (fun hf => ?_)
    · refine j_iload_n (q := 37) h dX7_safe_36 rfl rfl ?_
      refine j_iconst (q := 38) (-1) h dX7_safe_37 ki_m1 rfl ?_
      refine j_icmp_ne (q := 41) 45 h dX7_safe_38 (by decide) rfl hf (fun hf => ?_) (fun hf => ?_)
      · refine j_bipush (q := 47) (-6) h dX7_safe_45 kb_m6 rfl ?_
        exact j_iret h dX7_safe_47 hf
      · refine j_iload_n (q := 42) h dX7_safe_41 rfl rfl ?_
        refine j_goto 47 h dX7_safe_42 (by decide) ?_
        exact j_iret h dX7_safe_47 hf
    · refine j_aload_n (q := 12) h dX7_safe_11 rfl rfl ?_
      refine j_iload_n (q := 13) h dX7_safe_12 rfl rfl ?_
      refine j_cVi (q := 16) (As := [.int _]) h rfl hf (fun _ hx => ct_X7_growsOf _ _ _ hx) ml_X7_121 vw_X7_growsOf rf_X7_safe_X7_growsOf ⟨Nat.zero_le _, Nat.zero_le _⟩ (Nat.le_of_ble_eq_true rfl) dX7_safe_13 rfl (fun _ _ hf => ?_)
      refine j_iconst (q := 17) (1) h dX7_safe_16 ki_1 rfl ?_
      refine j_icmp_ne (q := 20) 30 h dX7_safe_17 (by decide) rfl hf (fun hf => ?_) (fun hf => ?_)
      · exact j_sub (lsub_s (lsub_s (lsub_s (lsub_s lsub_0)))) (w_X7_safe_30 h ih hf)
      · refine j_iload_n (q := 21) h dX7_safe_20 rfl rfl ?_
        refine j_iload_n (q := 22) h dX7_safe_21 rfl rfl ?_
        refine j_icmp_ne (q := 25) 27 h dX7_safe_22 (by decide) rfl hf (fun hf => ?_) (fun hf => ?_)
        · refine j_iinc (q := 30) _ [_, _, _, _] h dX7_safe_27 rfl (by decide) rfl (kc_1 _) rfl rfl ?_
          exact j_sub (lsub_s (lsub_s (lsub_s (lsub_s lsub_0)))) (w_X7_safe_30 h ih hf)
        · refine j_iload_n (q := 26) h dX7_safe_25 rfl rfl ?_
          exact j_iret h dX7_safe_26 hf
set_option maxRecDepth 20000 in
theorem w_X7_safe_0 {g : GT} {K : KT} {P : PT} {res : Int32 × VT} (h : OK g RX7 cX7_safe 4 (some .int)) {l0 : Nat} {l1 : Int32} {V : VT} (hf : f_X7_safe K P l0 l1 V = some res) : J g rm_X7_safe (QF g (some (.int res.1)) K P res.2 0 0) 4 K P V 0 0 0 [some (.ref l0), some (.int l1), none, none] [] := by
  rw [f_X7_safe] at hf
  refine j_iconst (q := 1) (0) h dX7_safe_0 ki_0 rfl ?_
  refine j_istore_n (q := 2) [_, _, _, _] h dX7_safe_1 rfl (by decide) rfl rfl ?_
  refine j_bipush (q := 4) (33) h dX7_safe_2 kb_33 rfl ?_
  refine j_istore_n (q := 5) [_, _, _, _] h dX7_safe_4 rfl (by decide) rfl rfl ?_
  exact j_sub (lsub_s (lsub_s (lsub_s (lsub_s lsub_0)))) (w_X7_safe_5 h FU _ _ _ _ _ hf)
theorem ct_X7_safe (l : Launch) (D : va_G) (T : TT) {K : KT} {P : PT} {l0 : Nat} {l1 : Int32} {V : VT} {res : Int32 × VT} (hf : f_X7_safe K P l0 l1 V = some res) : CT l D T yX7_safe cX7_safe 4 (some .int) rm_X7_safe K P V [.ref l0, .int l1] (some (.int res.1)) res.2 :=
  fun _ => CT_of pn_X7 (cat_a (cat_i cat_0)) (Nat.le_of_ble_eq_true rfl) [some (.ref l0), some (.int l1), none, none] rfl (fun _ _ _ h => w_X7_safe_0 h hf)
/-! QuotedLayersModel.dearest()I -/
def rm_X7_dearest : Room := { frames := 6, cells := 0, slots := 0, locals := 140 }
theorem rf_X7_dearest_X7_growsOf : RF rm_X7_growsOf rm_X7_dearest 4 := ⟨⟨by decide, by decide⟩, rfl, rfl⟩
theorem rf_X7_dearest_X7_lengthOf : RF rm_X7_lengthOf rm_X7_dearest 2 := ⟨⟨by decide, by decide⟩, rfl, rfl⟩
def f_X7_dearest_53 (K : KT) (P : PT) (k20 : Nat → Int32 → Int32 → Int32 → VT → Option (Int32 × VT)) (l0 : Nat) (l1 : Int32) (l2 : Int32) (l3 : Int32) (V : VT) : Option (Int32 × VT) :=
  k20 l0 l1 l2 (l3 + (1 : Int32)) V
def f_X7_dearest_48 (K : KT) (P : PT) (k20 : Nat → Int32 → Int32 → Int32 → VT → Option (Int32 × VT)) (l0 : Nat) (l3 : Int32) (l4 : Int32) (V : VT) : Option (Int32 × VT) :=
  f_X7_dearest_53 K P k20 l0 l3 l4 l3 V
def f_X7_dearest_20 (K : KT) (P : PT) : Nat → Nat → Int32 → Int32 → Int32 → VT → Option (Int32 × VT)
  | 0, _, _, _, _, _ => none
  | n + 1, l0, l1, l2, l3, V => if l3 < ((127 : Int32)) then (cV K l0 5 (f_X7_growsOf K P l0 l3 V) fun x2 V1 => if x2 < 0 then (f_X7_dearest_53 K P (f_X7_dearest_20 K P n) l0 l1 l2 l3 V1) else (if l1 < 0 then (f_X7_dearest_48 K P (f_X7_dearest_20 K P n) l0 l3 x2 V1) else (if l2 < x2 then (f_X7_dearest_48 K P (f_X7_dearest_20 K P n) l0 l3 x2 V1) else (f_X7_dearest_53 K P (f_X7_dearest_20 K P n) l0 l1 l2 l3 V1)))) else (some (l1, V))
def f_X7_dearest (K : KT) (P : PT) (l0 : Nat) (V : VT) : Option (Int32 × VT) :=
  cV K l0 5 (f_X7_lengthOf K P l0 ((120 : Int32)) V) fun x2 V1 => if x2 < 0 then (some ((-6 : Int32), V1)) else (f_X7_dearest_20 K P FU l0 ((-6 : Int32)) ((0 : Int32)) ((33 : Int32)) V1)
set_option maxRecDepth 20000 in
theorem w_X7_dearest_53 {g : GT} {K : KT} {P : PT} {res : Int32 × VT} (h : OK g RX7 cX7_dearest 5 (some .int)) {k20 : Nat → Int32 → Int32 → Int32 → VT → Option (Int32 × VT)} (hk20 : ∀ (l0 : Nat) (l1 : Int32) (l2 : Int32) (l3 : Int32) (V : VT), k20 l0 l1 l2 l3 V = some res → J g rm_X7_dearest (QF g (some (.int res.1)) K P res.2 0 0) 5 K P V 0 0 20 [some (.ref l0), some (.int l1), some (.int l2), some (.int l3), none] []) {l0 : Nat} {l1 : Int32} {l2 : Int32} {l3 : Int32} {V : VT} (hf : f_X7_dearest_53 K P k20 l0 l1 l2 l3 V = some res) : J g rm_X7_dearest (QF g (some (.int res.1)) K P res.2 0 0) 5 K P V 0 0 53 [some (.ref l0), some (.int l1), some (.int l2), some (.int l3), none] [] := by
  rw [f_X7_dearest_53] at hf
  refine j_iinc (q := 56) _ [_, _, _, _, _] h dX7_dearest_53 rfl (by decide) rfl (kc_1 _) rfl rfl ?_
  refine j_goto 20 h dX7_dearest_56 (by decide) ?_
  exact j_sub (lsub_s (lsub_s (lsub_s (lsub_s (lsub_n lsub_0))))) (hk20 _ _ _ _ _ hf)
set_option maxRecDepth 20000 in
theorem w_X7_dearest_48 {g : GT} {K : KT} {P : PT} {res : Int32 × VT} (h : OK g RX7 cX7_dearest 5 (some .int)) {k20 : Nat → Int32 → Int32 → Int32 → VT → Option (Int32 × VT)} (hk20 : ∀ (l0 : Nat) (l1 : Int32) (l2 : Int32) (l3 : Int32) (V : VT), k20 l0 l1 l2 l3 V = some res → J g rm_X7_dearest (QF g (some (.int res.1)) K P res.2 0 0) 5 K P V 0 0 20 [some (.ref l0), some (.int l1), some (.int l2), some (.int l3), none] []) {l0 : Nat} {l3 : Int32} {l4 : Int32} {V : VT} (hf : f_X7_dearest_48 K P k20 l0 l3 l4 V = some res) : J g rm_X7_dearest (QF g (some (.int res.1)) K P res.2 0 0) 5 K P V 0 0 48 [some (.ref l0), none, none, some (.int l3), some (.int l4)] [] := by
  rw [f_X7_dearest_48] at hf
  refine j_iload_n (q := 49) h dX7_dearest_48 rfl rfl ?_
  refine j_istore_n (q := 50) [_, _, _, _, _] h dX7_dearest_49 rfl (by decide) rfl rfl ?_
  refine j_iload (q := 52) h dX7_dearest_50 rfl rfl ?_
  refine j_istore_n (q := 53) [_, _, _, _, _] h dX7_dearest_52 rfl (by decide) rfl rfl ?_
  exact j_sub (lsub_s (lsub_s (lsub_s (lsub_s (lsub_n lsub_0))))) (w_X7_dearest_53 h hk20 hf)
set_option maxRecDepth 20000 in
theorem w_X7_dearest_20 {g : GT} {K : KT} {P : PT} {res : Int32 × VT} (h : OK g RX7 cX7_dearest 5 (some .int)) : ∀ (n : Nat) (l0 : Nat) (l1 : Int32) (l2 : Int32) (l3 : Int32) (V : VT), f_X7_dearest_20 K P n l0 l1 l2 l3 V = some res → J g rm_X7_dearest (QF g (some (.int res.1)) K P res.2 0 0) 5 K P V 0 0 20 [some (.ref l0), some (.int l1), some (.int l2), some (.int l3), none] [] := by
  intro n
  induction n with
  | zero => intro l0 l1 l2 l3 V hf; rw [f_X7_dearest_20] at hf; cases hf
  | succ n ih =>
    intro l0 l1 l2 l3 V hf
    rw [f_X7_dearest_20] at hf
    refine j_iload_n (q := 21) h dX7_dearest_20 rfl rfl ?_
    refine j_bipush (q := 23) (127) h dX7_dearest_21 kb_127 rfl ?_
    refine j_icmp_ge (q := 26) 59 h dX7_dearest_23 (by decide) rfl hf (fun hf => ?_) (fun hf => ?_)
    · refine j_iload_n (q := 60) h dX7_dearest_59 rfl rfl ?_
      exact j_iret h dX7_dearest_60 hf
    · refine j_aload_n (q := 27) h dX7_dearest_26 rfl rfl ?_
      refine j_iload_n (q := 28) h dX7_dearest_27 rfl rfl ?_
      refine j_cVi (q := 31) (As := [.int _]) h rfl hf (fun _ hx => ct_X7_growsOf _ _ _ hx) ml_X7_121 vw_X7_growsOf rf_X7_dearest_X7_growsOf ⟨Nat.zero_le _, Nat.zero_le _⟩ (Nat.le_of_ble_eq_true rfl) dX7_dearest_28 rfl (fun _ _ hf => ?_)
      refine j_istore (q := 33) [_, _, _, _, _] h dX7_dearest_31 rfl (by decide) rfl rfl ?_
      refine j_iload (q := 35) h dX7_dearest_33 rfl rfl ?_
      refine j_if_lt (q := 38) 53 h dX7_dearest_35 (by decide) rfl hf (fun hf => ?_) (fun hf => ?_)
      · exact j_sub (lsub_s (lsub_s (lsub_s (lsub_s (lsub_n lsub_0))))) (w_X7_dearest_53 h ih hf)
      · refine j_iload_n (q := 39) h dX7_dearest_38 rfl rfl ?_
        refine j_if_lt (q := 42) 48 h dX7_dearest_39 (by decide) rfl hf (fun hf => ?_) (fun hf => ?_)
        · exact j_sub (lsub_s (lsub_n (lsub_n (lsub_s (lsub_s lsub_0))))) (w_X7_dearest_48 h ih hf)
        · refine j_iload (q := 44) h dX7_dearest_42 rfl rfl ?_
          refine j_iload_n (q := 45) h dX7_dearest_44 rfl rfl ?_
          refine j_icmp_le (q := 48) 53 h dX7_dearest_45 (by decide) rfl hf (fun hf => ?_) (fun hf => ?_)
          · exact j_sub (lsub_s (lsub_s (lsub_s (lsub_s (lsub_n lsub_0))))) (w_X7_dearest_53 h ih hf)
          · exact j_sub (lsub_s (lsub_n (lsub_n (lsub_s (lsub_s lsub_0))))) (w_X7_dearest_48 h ih hf)
set_option maxRecDepth 20000 in
theorem w_X7_dearest_0 {g : GT} {K : KT} {P : PT} {res : Int32 × VT} (h : OK g RX7 cX7_dearest 5 (some .int)) {l0 : Nat} {V : VT} (hf : f_X7_dearest K P l0 V = some res) : J g rm_X7_dearest (QF g (some (.int res.1)) K P res.2 0 0) 5 K P V 0 0 0 [some (.ref l0), none, none, none, none] [] := by
  rw [f_X7_dearest] at hf
  refine j_aload_n (q := 1) h dX7_dearest_0 rfl rfl ?_
  refine j_bipush (q := 3) (120) h dX7_dearest_1 kb_120 rfl ?_
  refine j_cVi (q := 6) (As := [.int _]) h rfl hf (fun _ hx => ct_X7_lengthOf _ _ _ hx) ml_X7_118 vw_X7_lengthOf rf_X7_dearest_X7_lengthOf ⟨Nat.zero_le _, Nat.zero_le _⟩ (Nat.le_of_ble_eq_true rfl) dX7_dearest_3 rfl (fun _ _ hf => ?_)
  refine j_if_ge (q := 9) 12 h dX7_dearest_6 (by decide) rfl hf (fun hf => ?_) (fun hf => ?_)
  · refine j_bipush (q := 14) (-6) h dX7_dearest_12 kb_m6 rfl ?_
    refine j_istore_n (q := 15) [_, _, _, _, _] h dX7_dearest_14 rfl (by decide) rfl rfl ?_
    refine j_iconst (q := 16) (0) h dX7_dearest_15 ki_0 rfl ?_
    refine j_istore_n (q := 17) [_, _, _, _, _] h dX7_dearest_16 rfl (by decide) rfl rfl ?_
    refine j_bipush (q := 19) (33) h dX7_dearest_17 kb_33 rfl ?_
    refine j_istore_n (q := 20) [_, _, _, _, _] h dX7_dearest_19 rfl (by decide) rfl rfl ?_
    exact j_sub (lsub_s (lsub_s (lsub_s (lsub_s (lsub_n lsub_0))))) (w_X7_dearest_20 h FU _ _ _ _ _ hf)
  · refine j_bipush (q := 11) (-6) h dX7_dearest_9 kb_m6 rfl ?_
    exact j_iret h dX7_dearest_11 hf
theorem ct_X7_dearest (l : Launch) (D : va_G) (T : TT) {K : KT} {P : PT} {l0 : Nat} {V : VT} {res : Int32 × VT} (hf : f_X7_dearest K P l0 V = some res) : CT l D T yX7_dearest cX7_dearest 5 (some .int) rm_X7_dearest K P V [.ref l0] (some (.int res.1)) res.2 :=
  fun _ => CT_of pn_X7 (cat_a cat_0) (Nat.le_of_ble_eq_true rfl) [some (.ref l0), none, none, none, none] rfl (fun _ _ _ h => w_X7_dearest_0 h hf)
/-! QuotedLayersModel.valueOf(I)I -/
def rm_X7_valueOf : Room := { frames := 1, cells := 0, slots := 0, locals := 22 }
theorem rf_X7_valueOf_X7_in : RF rm_X7_in rm_X7_valueOf 3 := ⟨⟨by decide, by decide⟩, rfl, rfl⟩
def f_X7_valueOf (K : KT) (P : PT) (l0 : Int32) (V : VT) : Option (Int32 × VT) :=
  cS (f_X7_in K P l0 ((48 : Int32)) ((57 : Int32)) V) fun x2 V1 => if x2 = 0 then (cS (f_X7_in K P l0 ((97 : Int32)) ((102 : Int32)) V1) fun x4 V3 => if x4 = 0 then (some ((-6 : Int32), V3)) else (some ((l0 - ((97 : Int32))) + ((10 : Int32)), V3))) else (some (l0 - ((48 : Int32)), V1))
set_option maxRecDepth 20000 in
theorem w_X7_valueOf_0 {g : GT} {K : KT} {P : PT} {res : Int32 × VT} (h : OK g RX7 cX7_valueOf 1 (some .int)) {l0 : Int32} {V : VT} (hf : f_X7_valueOf K P l0 V = some res) : J g rm_X7_valueOf (QF g (some (.int res.1)) K P res.2 0 0) 1 K P V 0 0 0 [some (.int l0)] [] := by
  rw [f_X7_valueOf] at hf
  refine j_iload_n (q := 1) h dX7_valueOf_0 rfl rfl ?_
  refine j_bipush (q := 3) (48) h dX7_valueOf_1 kb_48 rfl ?_
  refine j_bipush (q := 5) (57) h dX7_valueOf_3 kb_57 rfl ?_
  refine j_cSi (q := 8) (As := [.int _, .int _, .int _]) h rfl hf (fun _ hx => ct_X7_in _ _ _ hx) ml_X7_63 sw_X7_in rf_X7_valueOf_X7_in ⟨Nat.zero_le _, Nat.zero_le _⟩ (Nat.le_of_ble_eq_true rfl) dX7_valueOf_5 rfl (fun _ _ hf => ?_)
  refine j_if_eq (q := 11) 18 h dX7_valueOf_8 (by decide) rfl hf (fun hf => ?_) (fun hf => ?_)
  · refine j_iload_n (q := 19) h dX7_valueOf_18 rfl rfl ?_
    refine j_bipush (q := 21) (97) h dX7_valueOf_19 kb_97 rfl ?_
    refine j_bipush (q := 23) (102) h dX7_valueOf_21 kb_102 rfl ?_
    refine j_cSi (q := 26) (As := [.int _, .int _, .int _]) h rfl hf (fun _ hx => ct_X7_in _ _ _ hx) ml_X7_63 sw_X7_in rf_X7_valueOf_X7_in ⟨Nat.zero_le _, Nat.zero_le _⟩ (Nat.le_of_ble_eq_true rfl) dX7_valueOf_23 rfl (fun _ _ hf => ?_)
    refine j_if_eq (q := 29) 39 h dX7_valueOf_26 (by decide) rfl hf (fun hf => ?_) (fun hf => ?_)
    · refine j_bipush (q := 41) (-6) h dX7_valueOf_39 kb_m6 rfl ?_
      exact j_iret h dX7_valueOf_41 hf
    · refine j_iload_n (q := 30) h dX7_valueOf_29 rfl rfl ?_
      refine j_bipush (q := 32) (97) h dX7_valueOf_30 kb_97 rfl ?_
      refine j_isub (q := 33) h dX7_valueOf_32 rfl ?_
      refine j_bipush (q := 35) (10) h dX7_valueOf_33 kb_10 rfl ?_
      refine j_iadd (q := 36) h dX7_valueOf_35 rfl ?_
      refine j_goto 41 h dX7_valueOf_36 (by decide) ?_
      exact j_iret h dX7_valueOf_41 hf
  · refine j_iload_n (q := 12) h dX7_valueOf_11 rfl rfl ?_
    refine j_bipush (q := 14) (48) h dX7_valueOf_12 kb_48 rfl ?_
    refine j_isub (q := 15) h dX7_valueOf_14 rfl ?_
    refine j_goto 41 h dX7_valueOf_15 (by decide) ?_
    exact j_iret h dX7_valueOf_41 hf
theorem ct_X7_valueOf (l : Launch) (D : va_G) (T : TT) {K : KT} {P : PT} {l0 : Int32} {V : VT} {res : Int32 × VT} (hf : f_X7_valueOf K P l0 V = some res) : CT l D T yX7_valueOf cX7_valueOf 1 (some .int) rm_X7_valueOf K P V [.int l0] (some (.int res.1)) res.2 :=
  fun _ => CT_of pn_X7 (cat_i cat_0) (Nat.le_of_ble_eq_true rfl) [some (.int l0)] rfl (fun _ _ _ h => w_X7_valueOf_0 h hf)
/-! QuotedLayersModel.codeAt(I)I -/
def rm_X7_codeAt : Room := { frames := 2, cells := 0, slots := 0, locals := 42 }
theorem rf_X7_codeAt_X7_in : RF rm_X7_in rm_X7_codeAt 3 := ⟨⟨by decide, by decide⟩, rfl, rfl⟩
theorem rf_X7_codeAt_X7_valueOf : RF rm_X7_valueOf rm_X7_codeAt 1 := ⟨⟨by decide, by decide⟩, rfl, rfl⟩
def f_X7_codeAt (K : KT) (P : PT) (l0 : Nat) (l1 : Int32) (V : VT) : Option (Int32 × VT) :=
  gI K V l0 5 11 fun x1 => if (l1 + ((2 : Int32))) < x1 then (gR K P l0 5 12 fun b2 => aI K V 0 b2 (l1 + ((1 : Int32))) fun x3 => cS (f_X7_valueOf K P x3 V) fun x5 V4 => if x5 < 0 then (some ((-6 : Int32), V4)) else (gR K P l0 5 12 fun b6 => aI K V4 0 b6 (l1 + ((2 : Int32))) fun x7 => cS (f_X7_valueOf K P x7 V4) fun x9 V8 => if x9 < 0 then (some ((-6 : Int32), V8)) else (gR K P l0 5 12 fun b10 => aI K V8 0 b10 (l1 + ((1 : Int32))) fun x11 => cS (f_X7_valueOf K P x11 V8) fun x13 V12 => gR K P l0 5 12 fun b14 => aI K V12 0 b14 (l1 + ((2 : Int32))) fun x15 => cS (f_X7_valueOf K P x15 V12) fun x17 V16 => cS (f_X7_in K P ((((16 : Int32)) * x13) + x17) ((33 : Int32)) ((126 : Int32)) V16) fun x19 V18 => if x19 = 0 then (some ((-6 : Int32), V18)) else (some ((((16 : Int32)) * x13) + x17, V18))))) else (some ((-6 : Int32), V))
set_option maxRecDepth 20000 in
theorem w_X7_codeAt_0 {g : GT} {K : KT} {P : PT} {res : Int32 × VT} (h : OK g RX7 cX7_codeAt 3 (some .int)) {l0 : Nat} {l1 : Int32} {V : VT} (hf : f_X7_codeAt K P l0 l1 V = some res) : J g rm_X7_codeAt (QF g (some (.int res.1)) K P res.2 0 0) 3 K P V 0 0 0 [some (.ref l0), some (.int l1), none] [] := by
  rw [f_X7_codeAt] at hf
  refine j_iload_n (q := 1) h dX7_codeAt_0 rfl rfl ?_
  refine j_iconst (q := 2) (2) h dX7_codeAt_1 ki_2 rfl ?_
  refine j_iadd (q := 3) h dX7_codeAt_2 rfl ?_
  refine j_aload_n (q := 4) h dX7_codeAt_3 rfl rfl ?_
  refine j_gI (q := 7) h uin_X7 rfl rfl (by decide) rfl fl_X7_94 dX7_codeAt_4 rfl hf (fun hf => ?_)
  refine j_icmp_ge (q := 10) 38 h dX7_codeAt_7 (by decide) rfl hf (fun hf => ?_) (fun hf => ?_)
  · refine j_bipush (q := 40) (-6) h dX7_codeAt_38 kb_m6 rfl ?_
    exact j_iret h dX7_codeAt_40 hf
  · refine j_aload_n (q := 11) h dX7_codeAt_10 rfl rfl ?_
    refine j_gR (q := 14) h uin_X7 rfl rfl (by decide) rfl fl_X7_38 dX7_codeAt_11 rfl hf (fun b2 hf => ?_)
    refine j_iload_n (q := 15) h dX7_codeAt_14 rfl rfl ?_
    refine j_iconst (q := 16) (1) h dX7_codeAt_15 ki_1 rfl ?_
    refine j_iadd (q := 17) h dX7_codeAt_16 rfl ?_
    refine j_iald (q := 18) h dX7_codeAt_17 rfl hf (fun hf => ?_)
    refine j_cSi (q := 21) (As := [.int _]) h rfl hf (fun _ hx => ct_X7_valueOf _ _ _ hx) ml_X7_124 sw_X7_valueOf rf_X7_codeAt_X7_valueOf ⟨Nat.zero_le _, Nat.zero_le _⟩ (Nat.le_of_ble_eq_true rfl) dX7_codeAt_18 rfl (fun _ _ hf => ?_)
    refine j_if_lt (q := 24) 38 h dX7_codeAt_21 (by decide) rfl hf (fun hf => ?_) (fun hf => ?_)
    · refine j_bipush (q := 40) (-6) h dX7_codeAt_38 kb_m6 rfl ?_
      exact j_iret h dX7_codeAt_40 hf
    · refine j_aload_n (q := 25) h dX7_codeAt_24 rfl rfl ?_
      refine j_gR (q := 28) h uin_X7 rfl rfl (by decide) rfl fl_X7_38 dX7_codeAt_25 rfl hf (fun b6 hf => ?_)
      refine j_iload_n (q := 29) h dX7_codeAt_28 rfl rfl ?_
      refine j_iconst (q := 30) (2) h dX7_codeAt_29 ki_2 rfl ?_
      refine j_iadd (q := 31) h dX7_codeAt_30 rfl ?_
      refine j_iald (q := 32) h dX7_codeAt_31 rfl hf (fun hf => ?_)
      refine j_cSi (q := 35) (As := [.int _]) h rfl hf (fun _ hx => ct_X7_valueOf _ _ _ hx) ml_X7_124 sw_X7_valueOf rf_X7_codeAt_X7_valueOf ⟨Nat.zero_le _, Nat.zero_le _⟩ (Nat.le_of_ble_eq_true rfl) dX7_codeAt_32 rfl (fun _ _ hf => ?_)
      refine j_if_ge (q := 38) 41 h dX7_codeAt_35 (by decide) rfl hf (fun hf => ?_) (fun hf => ?_)
      · refine j_bipush (q := 43) (16) h dX7_codeAt_41 kb_16 rfl ?_
        refine j_aload_n (q := 44) h dX7_codeAt_43 rfl rfl ?_
        refine j_gR (q := 47) h uin_X7 rfl rfl (by decide) rfl fl_X7_38 dX7_codeAt_44 rfl hf (fun b10 hf => ?_)
        refine j_iload_n (q := 48) h dX7_codeAt_47 rfl rfl ?_
        refine j_iconst (q := 49) (1) h dX7_codeAt_48 ki_1 rfl ?_
        refine j_iadd (q := 50) h dX7_codeAt_49 rfl ?_
        refine j_iald (q := 51) h dX7_codeAt_50 rfl hf (fun hf => ?_)
        refine j_cSi (q := 54) (As := [.int _]) h rfl hf (fun _ hx => ct_X7_valueOf _ _ _ hx) ml_X7_124 sw_X7_valueOf rf_X7_codeAt_X7_valueOf ⟨Nat.zero_le _, Nat.zero_le _⟩ (Nat.le_of_ble_eq_true rfl) dX7_codeAt_51 rfl (fun _ _ hf => ?_)
        refine j_imul (q := 55) h dX7_codeAt_54 rfl ?_
        refine j_aload_n (q := 56) h dX7_codeAt_55 rfl rfl ?_
        refine j_gR (q := 59) h uin_X7 rfl rfl (by decide) rfl fl_X7_38 dX7_codeAt_56 rfl hf (fun b14 hf => ?_)
        refine j_iload_n (q := 60) h dX7_codeAt_59 rfl rfl ?_
        refine j_iconst (q := 61) (2) h dX7_codeAt_60 ki_2 rfl ?_
        refine j_iadd (q := 62) h dX7_codeAt_61 rfl ?_
        refine j_iald (q := 63) h dX7_codeAt_62 rfl hf (fun hf => ?_)
        refine j_cSi (q := 66) (As := [.int _]) h rfl hf (fun _ hx => ct_X7_valueOf _ _ _ hx) ml_X7_124 sw_X7_valueOf rf_X7_codeAt_X7_valueOf ⟨Nat.zero_le _, Nat.zero_le _⟩ (Nat.le_of_ble_eq_true rfl) dX7_codeAt_63 rfl (fun _ _ hf => ?_)
        refine j_iadd (q := 67) h dX7_codeAt_66 rfl ?_
        refine j_istore_n (q := 68) [_, _, _] h dX7_codeAt_67 rfl (by decide) rfl rfl ?_
        refine j_iload_n (q := 69) h dX7_codeAt_68 rfl rfl ?_
        refine j_bipush (q := 71) (33) h dX7_codeAt_69 kb_33 rfl ?_
        refine j_bipush (q := 73) (126) h dX7_codeAt_71 kb_126 rfl ?_
        refine j_cSi (q := 76) (As := [.int _, .int _, .int _]) h rfl hf (fun _ hx => ct_X7_in _ _ _ hx) ml_X7_63 sw_X7_in rf_X7_codeAt_X7_in ⟨Nat.zero_le _, Nat.zero_le _⟩ (Nat.le_of_ble_eq_true rfl) dX7_codeAt_73 rfl (fun _ _ hf => ?_)
        refine j_if_eq (q := 79) 83 h dX7_codeAt_76 (by decide) rfl hf (fun hf => ?_) (fun hf => ?_)
        · refine j_bipush (q := 85) (-6) h dX7_codeAt_83 kb_m6 rfl ?_
          exact j_iret h dX7_codeAt_85 hf
        · refine j_iload_n (q := 80) h dX7_codeAt_79 rfl rfl ?_
          refine j_goto 85 h dX7_codeAt_80 (by decide) ?_
          exact j_iret h dX7_codeAt_85 hf
      · refine j_bipush (q := 40) (-6) h dX7_codeAt_38 kb_m6 rfl ?_
        exact j_iret h dX7_codeAt_40 hf
theorem ct_X7_codeAt (l : Launch) (D : va_G) (T : TT) {K : KT} {P : PT} {l0 : Nat} {l1 : Int32} {V : VT} {res : Int32 × VT} (hf : f_X7_codeAt K P l0 l1 V = some res) : CT l D T yX7_codeAt cX7_codeAt 3 (some .int) rm_X7_codeAt K P V [.ref l0, .int l1] (some (.int res.1)) res.2 :=
  fun _ => CT_of pn_X7 (cat_a (cat_i cat_0)) (Nat.le_of_ble_eq_true rfl) [some (.ref l0), some (.int l1), none] rfl (fun _ _ _ h => w_X7_codeAt_0 h hf)
/-! QuotedLayersModel.readBy(I)I -/
def rm_X7_readBy : Room := { frames := 3, cells := 0, slots := 0, locals := 64 }
theorem rf_X7_readBy_X7_codeAt : RF rm_X7_codeAt rm_X7_readBy 3 := ⟨⟨by decide, by decide⟩, rfl, rfl⟩
theorem rf_X7_readBy_X7_hasMark : RF rm_X7_hasMark rm_X7_readBy 2 := ⟨⟨by decide, by decide⟩, rfl, rfl⟩
theorem rf_X7_readBy_X7_isHeld : RF rm_X7_isHeld rm_X7_readBy 5 := ⟨⟨by decide, by decide⟩, rfl, rfl⟩
def f_X7_readBy_298 (K : KT) (P : PT) : Nat → Nat → Int32 → Int32 → VT → Option (Int32 × VT)
  | 0, _, _, _, _ => none
  | n + 1, l0, l2, l5, V => if l5 < l2 then (gR K P l0 5 12 fun b2 => gR K P l0 5 13 fun b3 => aI K V 0 b3 l5 fun x4 => sA K V b2 l5 x4 fun V5 => (f_X7_readBy_298 K P n) l0 l2 (l5 + (1 : Int32)) V5) else (sI K V l0 5 11 l2 fun V1 => some ((-6 : Int32), V1))
def f_X7_readBy_295 (K : KT) (P : PT) (l0 : Nat) (l2 : Int32) (V : VT) : Option (Int32 × VT) :=
  f_X7_readBy_298 K P FU l0 l2 ((0 : Int32)) V
def f_X7_readBy_269 (K : KT) (P : PT) (l0 : Nat) (l1 : Int32) (l2 : Int32) (l3 : Int32) (l4 : Int32) (V : VT) : Option (Int32 × VT) :=
  if l4 = 0 then (cV K l0 5 (f_X7_hasMark K P l0 l1 V) fun x2 V1 => if x2 = 0 then (f_X7_readBy_295 K P l0 l2 V1) else (some (l3, V1))) else (gI K V l0 5 11 fun x3 => if l3 < x3 then (some (l3, V)) else (f_X7_readBy_295 K P l0 l2 V))
def f_X7_readBy_261 (K : KT) (P : PT) (k41 : Nat → Int32 → Int32 → Int32 → Int32 → VT → Option (Int32 × VT)) (l0 : Nat) (l1 : Int32) (l2 : Int32) (l3 : Int32) (l4 : Int32) (l7 : Int32) (V : VT) : Option (Int32 × VT) :=
  k41 l0 l1 l2 (l3 + l7) l4 V
def f_X7_readBy_245 (K : KT) (P : PT) (k41 : Nat → Int32 → Int32 → Int32 → Int32 → VT → Option (Int32 × VT)) (l0 : Nat) (l1 : Int32) (l2 : Int32) (l3 : Int32) (l4 : Int32) (l6 : Int32) (l7 : Int32) (V : VT) : Option (Int32 × VT) :=
  if l4 = 0 then (gR K P l0 5 13 fun b1 => sA K V b1 l2 l6 fun V2 => f_X7_readBy_261 K P k41 l0 l1 (l2 + (1 : Int32)) l3 l4 l7 V2) else (f_X7_readBy_261 K P k41 l0 l1 l2 l3 l4 l7 V)
def f_X7_readBy_233 (K : KT) (P : PT) (k41 : Nat → Int32 → Int32 → Int32 → Int32 → VT → Option (Int32 × VT)) (l0 : Nat) (l1 : Int32) (l2 : Int32) (l3 : Int32) (l4 : Int32) (l5 : Int32) (l6 : Int32) (l7 : Int32) (V : VT) : Option (Int32 × VT) :=
  cV K l0 5 (f_X7_isHeld K P l0 l1 l5 V) fun x2 V1 => if x2 = 0 then (f_X7_readBy_245 K P k41 l0 l1 l2 l3 l4 l6 l7 V1) else (some (l3, V1))
def f_X7_readBy_228 (K : KT) (P : PT) (k41 : Nat → Int32 → Int32 → Int32 → Int32 → VT → Option (Int32 × VT)) (l0 : Nat) (l1 : Int32) (l2 : Int32) (l3 : Int32) (l4 : Int32) (l6 : Int32) (s0 : Int32) (V : VT) : Option (Int32 × VT) :=
  f_X7_readBy_245 K P k41 l0 l1 l2 l3 l4 l6 s0 V
def f_X7_readBy_216 (K : KT) (P : PT) (k41 : Nat → Int32 → Int32 → Int32 → Int32 → VT → Option (Int32 × VT)) (l0 : Nat) (l1 : Int32) (l2 : Int32) (l3 : Int32) (l6 : Int32) (l8 : Int32) (s0 : Int32) (V : VT) : Option (Int32 × VT) :=
  if l8 = 0 then (f_X7_readBy_228 K P k41 l0 l1 l2 l3 s0 l6 ((1 : Int32)) V) else (f_X7_readBy_228 K P k41 l0 l1 l2 l3 s0 l6 ((2 : Int32)) V)
def f_X7_readBy_204 (K : KT) (P : PT) (k41 : Nat → Int32 → Int32 → Int32 → Int32 → VT → Option (Int32 × VT)) (l0 : Nat) (l1 : Int32) (l2 : Int32) (l3 : Int32) (l6 : Int32) (s0 : Int32) (V : VT) : Option (Int32 × VT) :=
  if s0 = 0 then (f_X7_readBy_216 K P k41 l0 l1 l2 l3 l6 s0 ((1 : Int32)) V) else (f_X7_readBy_216 K P k41 l0 l1 l2 l3 l6 s0 ((0 : Int32)) V)
def f_X7_readBy_203 (K : KT) (P : PT) (k41 : Nat → Int32 → Int32 → Int32 → Int32 → VT → Option (Int32 × VT)) (l0 : Nat) (l1 : Int32) (l2 : Int32) (l3 : Int32) (l6 : Int32) (V : VT) : Option (Int32 × VT) :=
  f_X7_readBy_204 K P k41 l0 l1 l2 l3 l6 ((0 : Int32)) V
def f_X7_readBy_138 (K : KT) (P : PT) (k41 : Nat → Int32 → Int32 → Int32 → Int32 → VT → Option (Int32 × VT)) (l0 : Nat) (l1 : Int32) (l2 : Int32) (l3 : Int32) (l4 : Int32) (l6 : Int32) (s0 : Int32) (V : VT) : Option (Int32 × VT) :=
  if l6 < 0 then (some (l3, V)) else (f_X7_readBy_245 K P k41 l0 l1 l2 l3 l4 l6 s0 V)
def f_X7_readBy_121 (K : KT) (P : PT) (k41 : Nat → Int32 → Int32 → Int32 → Int32 → VT → Option (Int32 × VT)) (l0 : Nat) (l1 : Int32) (l2 : Int32) (l3 : Int32) (l4 : Int32) (s0 : Int32) (V : VT) : Option (Int32 × VT) :=
  gR K P l0 5 3 fun b1 => aI K V 0 b1 l1 fun x2 => if x2 = ((1 : Int32)) then (f_X7_readBy_138 K P k41 l0 l1 l2 l3 l4 s0 ((2 : Int32)) V) else (f_X7_readBy_138 K P k41 l0 l1 l2 l3 l4 s0 ((3 : Int32)) V)
def f_X7_readBy_41 (K : KT) (P : PT) : Nat → Nat → Int32 → Int32 → Int32 → Int32 → VT → Option (Int32 × VT)
  | 0, _, _, _, _, _, _ => none
  | n + 1, l0, l1, l2, l3, l4, V => gI K V l0 5 11 fun x1 => if l3 < x1 then (if l4 = 0 then (gR K P l0 5 12 fun b2 => aI K V 0 b2 l3 fun x3 => gR K P l0 5 4 fun b4 => aI K V 0 b4 l1 fun x5 => if x3 = x5 then (gR K P l0 5 3 fun b15 => aI K V 0 b15 l1 fun x16 => if x16 = ((1 : Int32)) then (gI K V l0 5 11 fun x19 => if (l3 + ((1 : Int32))) < x19 then (gR K P l0 5 12 fun b20 => aI K V 0 b20 (l3 + ((1 : Int32))) fun x21 => f_X7_readBy_121 K P (f_X7_readBy_41 K P n) l0 l1 l2 l3 l4 x21 V) else (f_X7_readBy_121 K P (f_X7_readBy_41 K P n) l0 l1 l2 l3 l4 ((-6 : Int32)) V)) else (cV K l0 5 (f_X7_codeAt K P l0 l3 V) fun x18 V17 => f_X7_readBy_121 K P (f_X7_readBy_41 K P n) l0 l1 l2 l3 l4 x18 V17)) else (cV K l0 5 (f_X7_hasMark K P l0 l1 V) fun x7 V6 => if x7 = 0 then (f_X7_readBy_233 K P (f_X7_readBy_41 K P n) l0 l1 l2 l3 l4 x3 x3 ((1 : Int32)) V6) else (gR K P l0 5 2 fun b8 => aI K V6 0 b8 l1 fun x9 => if x3 = x9 then (gR K P l0 5 3 fun b10 => aI K V6 0 b10 l1 fun x11 => if x11 = ((2 : Int32)) then (gI K V6 l0 5 11 fun x12 => if (l3 + ((1 : Int32))) < x12 then (gR K P l0 5 12 fun b13 => aI K V6 0 b13 (l3 + ((1 : Int32))) fun x14 => if x14 = x3 then (f_X7_readBy_204 K P (f_X7_readBy_41 K P n) l0 l1 l2 l3 x3 ((1 : Int32)) V6) else (f_X7_readBy_203 K P (f_X7_readBy_41 K P n) l0 l1 l2 l3 x3 V6)) else (f_X7_readBy_203 K P (f_X7_readBy_41 K P n) l0 l1 l2 l3 x3 V6)) else (f_X7_readBy_203 K P (f_X7_readBy_41 K P n) l0 l1 l2 l3 x3 V6)) else (f_X7_readBy_233 K P (f_X7_readBy_41 K P n) l0 l1 l2 l3 l4 x3 x3 ((1 : Int32)) V6)))) else (f_X7_readBy_269 K P l0 l1 l2 l3 l4 V)) else (f_X7_readBy_269 K P l0 l1 l2 l3 l4 V)
def f_X7_readBy_38 (K : KT) (P : PT) (l0 : Nat) (l1 : Int32) (l2 : Int32) (l3 : Int32) (V : VT) : Option (Int32 × VT) :=
  f_X7_readBy_41 K P FU l0 l1 l2 l3 ((0 : Int32)) V
def f_X7_readBy (K : KT) (P : PT) (l0 : Nat) (l1 : Int32) (V : VT) : Option (Int32 × VT) :=
  cV K l0 5 (f_X7_hasMark K P l0 l1 V) fun x2 V1 => if x2 = 0 then (f_X7_readBy_38 K P l0 l1 ((0 : Int32)) ((0 : Int32)) V1) else (gI K V1 l0 5 11 fun x3 => if x3 = 0 then (some ((0 : Int32), V1)) else (gR K P l0 5 12 fun b4 => aI K V1 0 b4 ((0 : Int32)) fun x5 => gR K P l0 5 2 fun b6 => aI K V1 0 b6 l1 fun x7 => if x5 = x7 then (f_X7_readBy_38 K P l0 l1 ((0 : Int32)) ((1 : Int32)) V1) else (some ((0 : Int32), V1))))
set_option maxRecDepth 20000 in
theorem w_X7_readBy_298 {g : GT} {K : KT} {P : PT} {res : Int32 × VT} (h : OK g RX7 cX7_readBy 9 (some .int)) : ∀ (n : Nat) (l0 : Nat) (l2 : Int32) (l5 : Int32) (V : VT), f_X7_readBy_298 K P n l0 l2 l5 V = some res → J g rm_X7_readBy (QF g (some (.int res.1)) K P res.2 0 0) 9 K P V 0 0 298 [some (.ref l0), none, some (.int l2), none, none, some (.int l5), none, none, none] [] := by
  intro n
  induction n with
  | zero => intro l0 l2 l5 V hf; rw [f_X7_readBy_298] at hf; cases hf
  | succ n ih =>
    intro l0 l2 l5 V hf
    rw [f_X7_readBy_298] at hf
    refine j_iload (q := 300) h dX7_readBy_298 rfl rfl ?_
    refine j_iload_n (q := 301) h dX7_readBy_300 rfl rfl ?_
    refine j_icmp_ge (q := 304) 324 h dX7_readBy_301 (by decide) rfl hf (fun hf => ?_) (fun hf => ?_)
    · refine j_aload_n (q := 325) h dX7_readBy_324 rfl rfl ?_
      refine j_iload_n (q := 326) h dX7_readBy_325 rfl rfl ?_
      refine j_sI (q := 329) h tyX7 tyX7_ok nmX7 uin_X7 rfl rfl (by decide) rfl rfl (by decide +kernel) fl_X7_94 dX7_readBy_326 rfl hf (fun hf => ?_)
      refine j_bipush (q := 331) (-6) h dX7_readBy_329 kb_m6 rfl ?_
      exact j_iret h dX7_readBy_331 hf
    · refine j_aload_n (q := 305) h dX7_readBy_304 rfl rfl ?_
      refine j_gR (q := 308) h uin_X7 rfl rfl (by decide) rfl fl_X7_38 dX7_readBy_305 rfl hf (fun b2 hf => ?_)
      refine j_iload (q := 310) h dX7_readBy_308 rfl rfl ?_
      refine j_aload_n (q := 311) h dX7_readBy_310 rfl rfl ?_
      refine j_gR (q := 314) h uin_X7 rfl rfl (by decide) rfl fl_X7_41 dX7_readBy_311 rfl hf (fun b3 hf => ?_)
      refine j_iload (q := 316) h dX7_readBy_314 rfl rfl ?_
      refine j_iald (q := 317) h dX7_readBy_316 rfl hf (fun hf => ?_)
      refine j_iast (q := 318) h dX7_readBy_317 rfl hf (fun hf => ?_)
      refine j_iinc (q := 321) _ [_, _, _, _, _, _, _, _, _] h dX7_readBy_318 rfl (by decide) rfl (kc_1 _) rfl rfl ?_
      refine j_goto 298 h dX7_readBy_321 (by decide) ?_
      exact j_sub (lsub_s (lsub_n (lsub_s (lsub_n (lsub_n (lsub_s (lsub_n (lsub_n (lsub_n lsub_0))))))))) (ih _ _ _ _ hf)
set_option maxRecDepth 20000 in
theorem w_X7_readBy_295 {g : GT} {K : KT} {P : PT} {res : Int32 × VT} (h : OK g RX7 cX7_readBy 9 (some .int)) {l0 : Nat} {l2 : Int32} {V : VT} (hf : f_X7_readBy_295 K P l0 l2 V = some res) : J g rm_X7_readBy (QF g (some (.int res.1)) K P res.2 0 0) 9 K P V 0 0 295 [some (.ref l0), none, some (.int l2), none, none, none, none, none, none] [] := by
  rw [f_X7_readBy_295] at hf
  refine j_iconst (q := 296) (0) h dX7_readBy_295 ki_0 rfl ?_
  refine j_istore (q := 298) [_, _, _, _, _, _, _, _, _] h dX7_readBy_296 rfl (by decide) rfl rfl ?_
  exact j_sub (lsub_s (lsub_n (lsub_s (lsub_n (lsub_n (lsub_s (lsub_n (lsub_n (lsub_n lsub_0))))))))) (w_X7_readBy_298 h FU _ _ _ _ hf)
set_option maxRecDepth 20000 in
theorem w_X7_readBy_269 {g : GT} {K : KT} {P : PT} {res : Int32 × VT} (h : OK g RX7 cX7_readBy 9 (some .int)) {l0 : Nat} {l1 : Int32} {l2 : Int32} {l3 : Int32} {l4 : Int32} {V : VT} (hf : f_X7_readBy_269 K P l0 l1 l2 l3 l4 V = some res) : J g rm_X7_readBy (QF g (some (.int res.1)) K P res.2 0 0) 9 K P V 0 0 269 [some (.ref l0), some (.int l1), some (.int l2), some (.int l3), some (.int l4), none, none, none, none] [] := by
  rw [f_X7_readBy_269] at hf
  refine j_iload (q := 271) h dX7_readBy_269 rfl rfl ?_
  refine j_if_eq (q := 274) 285 h dX7_readBy_271 (by decide) rfl hf (fun hf => ?_) (fun hf => ?_)
  · refine j_aload_n (q := 286) h dX7_readBy_285 rfl rfl ?_
    refine j_iload_n (q := 287) h dX7_readBy_286 rfl rfl ?_
    refine j_cVi (q := 290) (As := [.int _]) h rfl hf (fun _ hx => ct_X7_hasMark _ _ _ hx) ml_X7_87 vw_X7_hasMark rf_X7_readBy_X7_hasMark ⟨Nat.zero_le _, Nat.zero_le _⟩ (Nat.le_of_ble_eq_true rfl) dX7_readBy_287 rfl (fun _ _ hf => ?_)
    refine j_if_eq (q := 293) 295 h dX7_readBy_290 (by decide) rfl hf (fun hf => ?_) (fun hf => ?_)
    · exact j_sub (lsub_s (lsub_n (lsub_s (lsub_n (lsub_n (lsub_n (lsub_n (lsub_n (lsub_n lsub_0))))))))) (w_X7_readBy_295 h hf)
    · refine j_iload_n (q := 294) h dX7_readBy_293 rfl rfl ?_
      exact j_iret h dX7_readBy_294 hf
  · refine j_iload_n (q := 275) h dX7_readBy_274 rfl rfl ?_
    refine j_aload_n (q := 276) h dX7_readBy_275 rfl rfl ?_
    refine j_gI (q := 279) h uin_X7 rfl rfl (by decide) rfl fl_X7_94 dX7_readBy_276 rfl hf (fun hf => ?_)
    refine j_icmp_ge (q := 282) 295 h dX7_readBy_279 (by decide) rfl hf (fun hf => ?_) (fun hf => ?_)
    · exact j_sub (lsub_s (lsub_n (lsub_s (lsub_n (lsub_n (lsub_n (lsub_n (lsub_n (lsub_n lsub_0))))))))) (w_X7_readBy_295 h hf)
    · refine j_goto 293 h dX7_readBy_282 (by decide) ?_
      refine j_iload_n (q := 294) h dX7_readBy_293 rfl rfl ?_
      exact j_iret h dX7_readBy_294 hf
set_option maxRecDepth 20000 in
theorem w_X7_readBy_261 {g : GT} {K : KT} {P : PT} {res : Int32 × VT} (h : OK g RX7 cX7_readBy 9 (some .int)) {k41 : Nat → Int32 → Int32 → Int32 → Int32 → VT → Option (Int32 × VT)} (hk41 : ∀ (l0 : Nat) (l1 : Int32) (l2 : Int32) (l3 : Int32) (l4 : Int32) (V : VT), k41 l0 l1 l2 l3 l4 V = some res → J g rm_X7_readBy (QF g (some (.int res.1)) K P res.2 0 0) 9 K P V 0 0 41 [some (.ref l0), some (.int l1), some (.int l2), some (.int l3), some (.int l4), none, none, none, none] []) {l0 : Nat} {l1 : Int32} {l2 : Int32} {l3 : Int32} {l4 : Int32} {l7 : Int32} {V : VT} (hf : f_X7_readBy_261 K P k41 l0 l1 l2 l3 l4 l7 V = some res) : J g rm_X7_readBy (QF g (some (.int res.1)) K P res.2 0 0) 9 K P V 0 0 261 [some (.ref l0), some (.int l1), some (.int l2), some (.int l3), some (.int l4), none, none, some (.int l7), none] [] := by
  rw [f_X7_readBy_261] at hf
  refine j_iload_n (q := 262) h dX7_readBy_261 rfl rfl ?_
  refine j_iload (q := 264) h dX7_readBy_262 rfl rfl ?_
  refine j_iadd (q := 265) h dX7_readBy_264 rfl ?_
  refine j_istore_n (q := 266) [_, _, _, _, _, _, _, _, _] h dX7_readBy_265 rfl (by decide) rfl rfl ?_
  refine j_goto 41 h dX7_readBy_266 (by decide) ?_
  exact j_sub (lsub_s (lsub_s (lsub_s (lsub_s (lsub_s (lsub_n (lsub_n (lsub_n (lsub_n lsub_0))))))))) (hk41 _ _ _ _ _ _ hf)
set_option maxRecDepth 20000 in
theorem w_X7_readBy_245 {g : GT} {K : KT} {P : PT} {res : Int32 × VT} (h : OK g RX7 cX7_readBy 9 (some .int)) {k41 : Nat → Int32 → Int32 → Int32 → Int32 → VT → Option (Int32 × VT)} (hk41 : ∀ (l0 : Nat) (l1 : Int32) (l2 : Int32) (l3 : Int32) (l4 : Int32) (V : VT), k41 l0 l1 l2 l3 l4 V = some res → J g rm_X7_readBy (QF g (some (.int res.1)) K P res.2 0 0) 9 K P V 0 0 41 [some (.ref l0), some (.int l1), some (.int l2), some (.int l3), some (.int l4), none, none, none, none] []) {l0 : Nat} {l1 : Int32} {l2 : Int32} {l3 : Int32} {l4 : Int32} {l6 : Int32} {l7 : Int32} {V : VT} (hf : f_X7_readBy_245 K P k41 l0 l1 l2 l3 l4 l6 l7 V = some res) : J g rm_X7_readBy (QF g (some (.int res.1)) K P res.2 0 0) 9 K P V 0 0 245 [some (.ref l0), some (.int l1), some (.int l2), some (.int l3), some (.int l4), none, some (.int l6), some (.int l7), none] [] := by
  rw [f_X7_readBy_245] at hf
  refine j_iload (q := 247) h dX7_readBy_245 rfl rfl ?_
  refine j_if_ne (q := 250) 261 h dX7_readBy_247 (by decide) rfl hf (fun hf => ?_) (fun hf => ?_)
  · exact j_sub (lsub_s (lsub_s (lsub_s (lsub_s (lsub_s (lsub_n (lsub_n (lsub_s (lsub_n lsub_0))))))))) (w_X7_readBy_261 h hk41 hf)
  · refine j_aload_n (q := 251) h dX7_readBy_250 rfl rfl ?_
    refine j_gR (q := 254) h uin_X7 rfl rfl (by decide) rfl fl_X7_41 dX7_readBy_251 rfl hf (fun b1 hf => ?_)
    refine j_iload_n (q := 255) h dX7_readBy_254 rfl rfl ?_
    refine j_iload (q := 257) h dX7_readBy_255 rfl rfl ?_
    refine j_iast (q := 258) h dX7_readBy_257 rfl hf (fun hf => ?_)
    refine j_iinc (q := 261) _ [_, _, _, _, _, _, _, _, _] h dX7_readBy_258 rfl (by decide) rfl (kc_1 _) rfl rfl ?_
    exact j_sub (lsub_s (lsub_s (lsub_s (lsub_s (lsub_s (lsub_n (lsub_n (lsub_s (lsub_n lsub_0))))))))) (w_X7_readBy_261 h hk41 hf)
set_option maxRecDepth 20000 in
theorem w_X7_readBy_233 {g : GT} {K : KT} {P : PT} {res : Int32 × VT} (h : OK g RX7 cX7_readBy 9 (some .int)) {k41 : Nat → Int32 → Int32 → Int32 → Int32 → VT → Option (Int32 × VT)} (hk41 : ∀ (l0 : Nat) (l1 : Int32) (l2 : Int32) (l3 : Int32) (l4 : Int32) (V : VT), k41 l0 l1 l2 l3 l4 V = some res → J g rm_X7_readBy (QF g (some (.int res.1)) K P res.2 0 0) 9 K P V 0 0 41 [some (.ref l0), some (.int l1), some (.int l2), some (.int l3), some (.int l4), none, none, none, none] []) {l0 : Nat} {l1 : Int32} {l2 : Int32} {l3 : Int32} {l4 : Int32} {l5 : Int32} {l6 : Int32} {l7 : Int32} {V : VT} (hf : f_X7_readBy_233 K P k41 l0 l1 l2 l3 l4 l5 l6 l7 V = some res) : J g rm_X7_readBy (QF g (some (.int res.1)) K P res.2 0 0) 9 K P V 0 0 233 [some (.ref l0), some (.int l1), some (.int l2), some (.int l3), some (.int l4), some (.int l5), some (.int l6), some (.int l7), none] [] := by
  rw [f_X7_readBy_233] at hf
  refine j_aload_n (q := 234) h dX7_readBy_233 rfl rfl ?_
  refine j_iload_n (q := 235) h dX7_readBy_234 rfl rfl ?_
  refine j_iload (q := 237) h dX7_readBy_235 rfl rfl ?_
  refine j_cVi (q := 240) (As := [.int _, .int _]) h rfl hf (fun _ hx => ct_X7_isHeld _ _ _ hx) ml_X7_90 vw_X7_isHeld rf_X7_readBy_X7_isHeld ⟨Nat.zero_le _, Nat.zero_le _⟩ (Nat.le_of_ble_eq_true rfl) dX7_readBy_237 rfl (fun _ _ hf => ?_)
  refine j_if_eq (q := 243) 245 h dX7_readBy_240 (by decide) rfl hf (fun hf => ?_) (fun hf => ?_)
  · exact j_sub (lsub_s (lsub_s (lsub_s (lsub_s (lsub_s (lsub_n (lsub_s (lsub_s (lsub_n lsub_0))))))))) (w_X7_readBy_245 h hk41 hf)
  · refine j_iload_n (q := 244) h dX7_readBy_243 rfl rfl ?_
    exact j_iret h dX7_readBy_244 hf
set_option maxRecDepth 20000 in
theorem w_X7_readBy_228 {g : GT} {K : KT} {P : PT} {res : Int32 × VT} (h : OK g RX7 cX7_readBy 9 (some .int)) {k41 : Nat → Int32 → Int32 → Int32 → Int32 → VT → Option (Int32 × VT)} (hk41 : ∀ (l0 : Nat) (l1 : Int32) (l2 : Int32) (l3 : Int32) (l4 : Int32) (V : VT), k41 l0 l1 l2 l3 l4 V = some res → J g rm_X7_readBy (QF g (some (.int res.1)) K P res.2 0 0) 9 K P V 0 0 41 [some (.ref l0), some (.int l1), some (.int l2), some (.int l3), some (.int l4), none, none, none, none] []) {l0 : Nat} {l1 : Int32} {l2 : Int32} {l3 : Int32} {l4 : Int32} {l6 : Int32} {s0 : Int32} {V : VT} (hf : f_X7_readBy_228 K P k41 l0 l1 l2 l3 l4 l6 s0 V = some res) : J g rm_X7_readBy (QF g (some (.int res.1)) K P res.2 0 0) 9 K P V 0 0 228 [some (.ref l0), some (.int l1), some (.int l2), some (.int l3), some (.int l4), none, some (.int l6), none, none] [.int s0] := by
  rw [f_X7_readBy_228] at hf
  refine j_istore (q := 230) [_, _, _, _, _, _, _, _, _] h dX7_readBy_228 rfl (by decide) rfl rfl ?_
  refine j_goto 245 h dX7_readBy_230 (by decide) ?_
  exact j_sub (lsub_s (lsub_s (lsub_s (lsub_s (lsub_s (lsub_n (lsub_s (lsub_s (lsub_n lsub_0))))))))) (w_X7_readBy_245 h hk41 hf)
set_option maxRecDepth 20000 in
theorem w_X7_readBy_216 {g : GT} {K : KT} {P : PT} {res : Int32 × VT} (h : OK g RX7 cX7_readBy 9 (some .int)) {k41 : Nat → Int32 → Int32 → Int32 → Int32 → VT → Option (Int32 × VT)} (hk41 : ∀ (l0 : Nat) (l1 : Int32) (l2 : Int32) (l3 : Int32) (l4 : Int32) (V : VT), k41 l0 l1 l2 l3 l4 V = some res → J g rm_X7_readBy (QF g (some (.int res.1)) K P res.2 0 0) 9 K P V 0 0 41 [some (.ref l0), some (.int l1), some (.int l2), some (.int l3), some (.int l4), none, none, none, none] []) {l0 : Nat} {l1 : Int32} {l2 : Int32} {l3 : Int32} {l6 : Int32} {l8 : Int32} {s0 : Int32} {V : VT} (hf : f_X7_readBy_216 K P k41 l0 l1 l2 l3 l6 l8 s0 V = some res) : J g rm_X7_readBy (QF g (some (.int res.1)) K P res.2 0 0) 9 K P V 0 0 216 [some (.ref l0), some (.int l1), some (.int l2), some (.int l3), none, none, some (.int l6), none, some (.int l8)] [.int s0] := by
  rw [f_X7_readBy_216] at hf
  refine j_istore (q := 218) [_, _, _, _, _, _, _, _, _] h dX7_readBy_216 rfl (by decide) rfl rfl ?_
  refine j_iload (q := 220) h dX7_readBy_218 rfl rfl ?_
  refine j_if_eq (q := 223) 227 h dX7_readBy_220 (by decide) rfl hf (fun hf => ?_) (fun hf => ?_)
  · refine j_iconst (q := 228) (1) h dX7_readBy_227 ki_1 rfl ?_
    exact j_sub (lsub_s (lsub_s (lsub_s (lsub_s (lsub_s (lsub_n (lsub_s (lsub_n (lsub_n lsub_0))))))))) (w_X7_readBy_228 h hk41 hf)
  · refine j_iconst (q := 224) (2) h dX7_readBy_223 ki_2 rfl ?_
    refine j_goto 228 h dX7_readBy_224 (by decide) ?_
    exact j_sub (lsub_s (lsub_s (lsub_s (lsub_s (lsub_s (lsub_n (lsub_s (lsub_n (lsub_n lsub_0))))))))) (w_X7_readBy_228 h hk41 hf)
set_option maxRecDepth 20000 in
theorem w_X7_readBy_204 {g : GT} {K : KT} {P : PT} {res : Int32 × VT} (h : OK g RX7 cX7_readBy 9 (some .int)) {k41 : Nat → Int32 → Int32 → Int32 → Int32 → VT → Option (Int32 × VT)} (hk41 : ∀ (l0 : Nat) (l1 : Int32) (l2 : Int32) (l3 : Int32) (l4 : Int32) (V : VT), k41 l0 l1 l2 l3 l4 V = some res → J g rm_X7_readBy (QF g (some (.int res.1)) K P res.2 0 0) 9 K P V 0 0 41 [some (.ref l0), some (.int l1), some (.int l2), some (.int l3), some (.int l4), none, none, none, none] []) {l0 : Nat} {l1 : Int32} {l2 : Int32} {l3 : Int32} {l6 : Int32} {s0 : Int32} {V : VT} (hf : f_X7_readBy_204 K P k41 l0 l1 l2 l3 l6 s0 V = some res) : J g rm_X7_readBy (QF g (some (.int res.1)) K P res.2 0 0) 9 K P V 0 0 204 [some (.ref l0), some (.int l1), some (.int l2), some (.int l3), none, none, some (.int l6), none, none] [.int s0] := by
  rw [f_X7_readBy_204] at hf
  refine j_istore (q := 206) [_, _, _, _, _, _, _, _, _] h dX7_readBy_204 rfl (by decide) rfl rfl ?_
  refine j_iload (q := 208) h dX7_readBy_206 rfl rfl ?_
  refine j_if_ne (q := 211) 215 h dX7_readBy_208 (by decide) rfl hf (fun hf => ?_) (fun hf => ?_)
  · refine j_iconst (q := 216) (0) h dX7_readBy_215 ki_0 rfl ?_
    exact j_sub (lsub_s (lsub_s (lsub_s (lsub_s (lsub_n (lsub_n (lsub_s (lsub_n (lsub_s lsub_0))))))))) (w_X7_readBy_216 h hk41 hf)
  · refine j_iconst (q := 212) (1) h dX7_readBy_211 ki_1 rfl ?_
    refine j_goto 216 h dX7_readBy_212 (by decide) ?_
    exact j_sub (lsub_s (lsub_s (lsub_s (lsub_s (lsub_n (lsub_n (lsub_s (lsub_n (lsub_s lsub_0))))))))) (w_X7_readBy_216 h hk41 hf)
set_option maxRecDepth 20000 in
theorem w_X7_readBy_203 {g : GT} {K : KT} {P : PT} {res : Int32 × VT} (h : OK g RX7 cX7_readBy 9 (some .int)) {k41 : Nat → Int32 → Int32 → Int32 → Int32 → VT → Option (Int32 × VT)} (hk41 : ∀ (l0 : Nat) (l1 : Int32) (l2 : Int32) (l3 : Int32) (l4 : Int32) (V : VT), k41 l0 l1 l2 l3 l4 V = some res → J g rm_X7_readBy (QF g (some (.int res.1)) K P res.2 0 0) 9 K P V 0 0 41 [some (.ref l0), some (.int l1), some (.int l2), some (.int l3), some (.int l4), none, none, none, none] []) {l0 : Nat} {l1 : Int32} {l2 : Int32} {l3 : Int32} {l6 : Int32} {V : VT} (hf : f_X7_readBy_203 K P k41 l0 l1 l2 l3 l6 V = some res) : J g rm_X7_readBy (QF g (some (.int res.1)) K P res.2 0 0) 9 K P V 0 0 203 [some (.ref l0), some (.int l1), some (.int l2), some (.int l3), none, none, some (.int l6), none, none] [] := by
  rw [f_X7_readBy_203] at hf
  refine j_iconst (q := 204) (0) h dX7_readBy_203 ki_0 rfl ?_
  exact j_sub (lsub_s (lsub_s (lsub_s (lsub_s (lsub_n (lsub_n (lsub_s (lsub_n (lsub_n lsub_0))))))))) (w_X7_readBy_204 h hk41 hf)
set_option maxRecDepth 20000 in
theorem w_X7_readBy_138 {g : GT} {K : KT} {P : PT} {res : Int32 × VT} (h : OK g RX7 cX7_readBy 9 (some .int)) {k41 : Nat → Int32 → Int32 → Int32 → Int32 → VT → Option (Int32 × VT)} (hk41 : ∀ (l0 : Nat) (l1 : Int32) (l2 : Int32) (l3 : Int32) (l4 : Int32) (V : VT), k41 l0 l1 l2 l3 l4 V = some res → J g rm_X7_readBy (QF g (some (.int res.1)) K P res.2 0 0) 9 K P V 0 0 41 [some (.ref l0), some (.int l1), some (.int l2), some (.int l3), some (.int l4), none, none, none, none] []) {l0 : Nat} {l1 : Int32} {l2 : Int32} {l3 : Int32} {l4 : Int32} {l6 : Int32} {s0 : Int32} {V : VT} (hf : f_X7_readBy_138 K P k41 l0 l1 l2 l3 l4 l6 s0 V = some res) : J g rm_X7_readBy (QF g (some (.int res.1)) K P res.2 0 0) 9 K P V 0 0 138 [some (.ref l0), some (.int l1), some (.int l2), some (.int l3), some (.int l4), none, some (.int l6), none, none] [.int s0] := by
  rw [f_X7_readBy_138] at hf
  refine j_istore (q := 140) [_, _, _, _, _, _, _, _, _] h dX7_readBy_138 rfl (by decide) rfl rfl ?_
  refine j_iload (q := 142) h dX7_readBy_140 rfl rfl ?_
  refine j_if_ge (q := 145) 245 h dX7_readBy_142 (by decide) rfl hf (fun hf => ?_) (fun hf => ?_)
  · exact j_sub (lsub_s (lsub_s (lsub_s (lsub_s (lsub_s (lsub_n (lsub_s (lsub_s (lsub_n lsub_0))))))))) (w_X7_readBy_245 h hk41 hf)
  · refine j_iload_n (q := 146) h dX7_readBy_145 rfl rfl ?_
    exact j_iret h dX7_readBy_146 hf
set_option maxRecDepth 20000 in
theorem w_X7_readBy_121 {g : GT} {K : KT} {P : PT} {res : Int32 × VT} (h : OK g RX7 cX7_readBy 9 (some .int)) {k41 : Nat → Int32 → Int32 → Int32 → Int32 → VT → Option (Int32 × VT)} (hk41 : ∀ (l0 : Nat) (l1 : Int32) (l2 : Int32) (l3 : Int32) (l4 : Int32) (V : VT), k41 l0 l1 l2 l3 l4 V = some res → J g rm_X7_readBy (QF g (some (.int res.1)) K P res.2 0 0) 9 K P V 0 0 41 [some (.ref l0), some (.int l1), some (.int l2), some (.int l3), some (.int l4), none, none, none, none] []) {l0 : Nat} {l1 : Int32} {l2 : Int32} {l3 : Int32} {l4 : Int32} {s0 : Int32} {V : VT} (hf : f_X7_readBy_121 K P k41 l0 l1 l2 l3 l4 s0 V = some res) : J g rm_X7_readBy (QF g (some (.int res.1)) K P res.2 0 0) 9 K P V 0 0 121 [some (.ref l0), some (.int l1), some (.int l2), some (.int l3), some (.int l4), none, none, none, none] [.int s0] := by
  rw [f_X7_readBy_121] at hf
  refine j_istore (q := 123) [_, _, _, _, _, _, _, _, _] h dX7_readBy_121 rfl (by decide) rfl rfl ?_
  refine j_aload_n (q := 124) h dX7_readBy_123 rfl rfl ?_
  refine j_gR (q := 127) h uin_X7 rfl rfl (by decide) rfl fl_X7_16 dX7_readBy_124 rfl hf (fun b1 hf => ?_)
  refine j_iload_n (q := 128) h dX7_readBy_127 rfl rfl ?_
  refine j_iald (q := 129) h dX7_readBy_128 rfl hf (fun hf => ?_)
  refine j_iconst (q := 130) (1) h dX7_readBy_129 ki_1 rfl ?_
  refine j_icmp_ne (q := 133) 137 h dX7_readBy_130 (by decide) rfl hf (fun hf => ?_) (fun hf => ?_)
  · refine j_iconst (q := 138) (3) h dX7_readBy_137 ki_3 rfl ?_
    exact j_sub (lsub_s (lsub_s (lsub_s (lsub_s (lsub_s (lsub_n (lsub_s (lsub_n (lsub_n lsub_0))))))))) (w_X7_readBy_138 h hk41 hf)
  · refine j_iconst (q := 134) (2) h dX7_readBy_133 ki_2 rfl ?_
    refine j_goto 138 h dX7_readBy_134 (by decide) ?_
    exact j_sub (lsub_s (lsub_s (lsub_s (lsub_s (lsub_s (lsub_n (lsub_s (lsub_n (lsub_n lsub_0))))))))) (w_X7_readBy_138 h hk41 hf)
set_option maxRecDepth 20000 in
theorem w_X7_readBy_41 {g : GT} {K : KT} {P : PT} {res : Int32 × VT} (h : OK g RX7 cX7_readBy 9 (some .int)) : ∀ (n : Nat) (l0 : Nat) (l1 : Int32) (l2 : Int32) (l3 : Int32) (l4 : Int32) (V : VT), f_X7_readBy_41 K P n l0 l1 l2 l3 l4 V = some res → J g rm_X7_readBy (QF g (some (.int res.1)) K P res.2 0 0) 9 K P V 0 0 41 [some (.ref l0), some (.int l1), some (.int l2), some (.int l3), some (.int l4), none, none, none, none] [] := by
  intro n
  induction n with
  | zero => intro l0 l1 l2 l3 l4 V hf; rw [f_X7_readBy_41] at hf; cases hf
  | succ n ih =>
    intro l0 l1 l2 l3 l4 V hf
    rw [f_X7_readBy_41] at hf
    refine j_iload_n (q := 42) h dX7_readBy_41 rfl rfl ?_
    refine j_aload_n (q := 43) h dX7_readBy_42 rfl rfl ?_
    refine j_gI (q := 46) h uin_X7 rfl rfl (by decide) rfl fl_X7_94 dX7_readBy_43 rfl hf (fun hf => ?_)
    refine j_icmp_ge (q := 49) 269 h dX7_readBy_46 (by decide) rfl hf (fun hf => ?_) (fun hf => ?_)
    · exact j_sub (lsub_s (lsub_s (lsub_s (lsub_s (lsub_s (lsub_n (lsub_n (lsub_n (lsub_n lsub_0))))))))) (w_X7_readBy_269 h hf)
    · refine j_iload (q := 51) h dX7_readBy_49 rfl rfl ?_
      refine j_if_ne (q := 54) 269 h dX7_readBy_51 (by decide) rfl hf (fun hf => ?_) (fun hf => ?_)
      · exact j_sub (lsub_s (lsub_s (lsub_s (lsub_s (lsub_s (lsub_n (lsub_n (lsub_n (lsub_n lsub_0))))))))) (w_X7_readBy_269 h hf)
      · refine j_aload_n (q := 55) h dX7_readBy_54 rfl rfl ?_
        refine j_gR (q := 58) h uin_X7 rfl rfl (by decide) rfl fl_X7_38 dX7_readBy_55 rfl hf (fun b2 hf => ?_)
        refine j_iload_n (q := 59) h dX7_readBy_58 rfl rfl ?_
        refine j_iald (q := 60) h dX7_readBy_59 rfl hf (fun hf => ?_)
        refine j_istore (q := 62) [_, _, _, _, _, _, _, _, _] h dX7_readBy_60 rfl (by decide) rfl rfl ?_
        refine j_iload (q := 64) h dX7_readBy_62 rfl rfl ?_
        refine j_istore (q := 66) [_, _, _, _, _, _, _, _, _] h dX7_readBy_64 rfl (by decide) rfl rfl ?_
        refine j_iconst (q := 67) (1) h dX7_readBy_66 ki_1 rfl ?_
        refine j_istore (q := 69) [_, _, _, _, _, _, _, _, _] h dX7_readBy_67 rfl (by decide) rfl rfl ?_
        refine j_iload (q := 71) h dX7_readBy_69 rfl rfl ?_
        refine j_aload_n (q := 72) h dX7_readBy_71 rfl rfl ?_
        refine j_gR (q := 75) h uin_X7 rfl rfl (by decide) rfl fl_X7_19 dX7_readBy_72 rfl hf (fun b4 hf => ?_)
        refine j_iload_n (q := 76) h dX7_readBy_75 rfl rfl ?_
        refine j_iald (q := 77) h dX7_readBy_76 rfl hf (fun hf => ?_)
        refine j_icmp_ne (q := 80) 147 h dX7_readBy_77 (by decide) rfl hf (fun hf => ?_) (fun hf => ?_)
        · refine j_aload_n (q := 148) h dX7_readBy_147 rfl rfl ?_
          refine j_iload_n (q := 149) h dX7_readBy_148 rfl rfl ?_
          refine j_cVi (q := 152) (As := [.int _]) h rfl hf (fun _ hx => ct_X7_hasMark _ _ _ hx) ml_X7_87 vw_X7_hasMark rf_X7_readBy_X7_hasMark ⟨Nat.zero_le _, Nat.zero_le _⟩ (Nat.le_of_ble_eq_true rfl) dX7_readBy_149 rfl (fun _ _ hf => ?_)
          refine j_if_eq (q := 155) 233 h dX7_readBy_152 (by decide) rfl hf (fun hf => ?_) (fun hf => ?_)
          · exact j_sub (lsub_s (lsub_s (lsub_s (lsub_s (lsub_s (lsub_s (lsub_s (lsub_s (lsub_n lsub_0))))))))) (w_X7_readBy_233 h ih hf)
          · refine j_iload (q := 157) h dX7_readBy_155 rfl rfl ?_
            refine j_aload_n (q := 158) h dX7_readBy_157 rfl rfl ?_
            refine j_gR (q := 161) h uin_X7 rfl rfl (by decide) rfl fl_X7_13 dX7_readBy_158 rfl hf (fun b8 hf => ?_)
            refine j_iload_n (q := 162) h dX7_readBy_161 rfl rfl ?_
            refine j_iald (q := 163) h dX7_readBy_162 rfl hf (fun hf => ?_)
            refine j_icmp_ne (q := 166) 233 h dX7_readBy_163 (by decide) rfl hf (fun hf => ?_) (fun hf => ?_)
            · exact j_sub (lsub_s (lsub_s (lsub_s (lsub_s (lsub_s (lsub_s (lsub_s (lsub_s (lsub_n lsub_0))))))))) (w_X7_readBy_233 h ih hf)
            · refine j_aload_n (q := 167) h dX7_readBy_166 rfl rfl ?_
              refine j_gR (q := 170) h uin_X7 rfl rfl (by decide) rfl fl_X7_16 dX7_readBy_167 rfl hf (fun b10 hf => ?_)
              refine j_iload_n (q := 171) h dX7_readBy_170 rfl rfl ?_
              refine j_iald (q := 172) h dX7_readBy_171 rfl hf (fun hf => ?_)
              refine j_iconst (q := 173) (2) h dX7_readBy_172 ki_2 rfl ?_
              refine j_icmp_ne (q := 176) 203 h dX7_readBy_173 (by decide) rfl hf (fun hf => ?_) (fun hf => ?_)
              · exact j_sub (lsub_s (lsub_s (lsub_s (lsub_s (lsub_n (lsub_n (lsub_s (lsub_n (lsub_n lsub_0))))))))) (w_X7_readBy_203 h ih hf)
              · refine j_iload_n (q := 177) h dX7_readBy_176 rfl rfl ?_
                refine j_iconst (q := 178) (1) h dX7_readBy_177 ki_1 rfl ?_
                refine j_iadd (q := 179) h dX7_readBy_178 rfl ?_
                refine j_aload_n (q := 180) h dX7_readBy_179 rfl rfl ?_
                refine j_gI (q := 183) h uin_X7 rfl rfl (by decide) rfl fl_X7_94 dX7_readBy_180 rfl hf (fun hf => ?_)
                refine j_icmp_ge (q := 186) 203 h dX7_readBy_183 (by decide) rfl hf (fun hf => ?_) (fun hf => ?_)
                · exact j_sub (lsub_s (lsub_s (lsub_s (lsub_s (lsub_n (lsub_n (lsub_s (lsub_n (lsub_n lsub_0))))))))) (w_X7_readBy_203 h ih hf)
                · refine j_aload_n (q := 187) h dX7_readBy_186 rfl rfl ?_
                  refine j_gR (q := 190) h uin_X7 rfl rfl (by decide) rfl fl_X7_38 dX7_readBy_187 rfl hf (fun b13 hf => ?_)
                  refine j_iload_n (q := 191) h dX7_readBy_190 rfl rfl ?_
                  refine j_iconst (q := 192) (1) h dX7_readBy_191 ki_1 rfl ?_
                  refine j_iadd (q := 193) h dX7_readBy_192 rfl ?_
                  refine j_iald (q := 194) h dX7_readBy_193 rfl hf (fun hf => ?_)
                  refine j_iload (q := 196) h dX7_readBy_194 rfl rfl ?_
                  refine j_icmp_ne (q := 199) 203 h dX7_readBy_196 (by decide) rfl hf (fun hf => ?_) (fun hf => ?_)
                  · exact j_sub (lsub_s (lsub_s (lsub_s (lsub_s (lsub_n (lsub_n (lsub_s (lsub_n (lsub_n lsub_0))))))))) (w_X7_readBy_203 h ih hf)
                  · refine j_iconst (q := 200) (1) h dX7_readBy_199 ki_1 rfl ?_
                    refine j_goto 204 h dX7_readBy_200 (by decide) ?_
                    exact j_sub (lsub_s (lsub_s (lsub_s (lsub_s (lsub_n (lsub_n (lsub_s (lsub_n (lsub_n lsub_0))))))))) (w_X7_readBy_204 h ih hf)
        · refine j_aload_n (q := 81) h dX7_readBy_80 rfl rfl ?_
          refine j_gR (q := 84) h uin_X7 rfl rfl (by decide) rfl fl_X7_16 dX7_readBy_81 rfl hf (fun b15 hf => ?_)
          refine j_iload_n (q := 85) h dX7_readBy_84 rfl rfl ?_
          refine j_iald (q := 86) h dX7_readBy_85 rfl hf (fun hf => ?_)
          refine j_iconst (q := 87) (1) h dX7_readBy_86 ki_1 rfl ?_
          refine j_icmp_ne (q := 90) 116 h dX7_readBy_87 (by decide) rfl hf (fun hf => ?_) (fun hf => ?_)
          · refine j_aload_n (q := 117) h dX7_readBy_116 rfl rfl ?_
            refine j_iload_n (q := 118) h dX7_readBy_117 rfl rfl ?_
            refine j_cVi (q := 121) (As := [.int _]) h rfl hf (fun _ hx => ct_X7_codeAt _ _ _ hx) ml_X7_127 vw_X7_codeAt rf_X7_readBy_X7_codeAt ⟨Nat.zero_le _, Nat.zero_le _⟩ (Nat.le_of_ble_eq_true rfl) dX7_readBy_118 rfl (fun _ _ hf => ?_)
            exact j_sub (lsub_s (lsub_s (lsub_s (lsub_s (lsub_s (lsub_n (lsub_n (lsub_n (lsub_n lsub_0))))))))) (w_X7_readBy_121 h ih hf)
          · refine j_iload_n (q := 91) h dX7_readBy_90 rfl rfl ?_
            refine j_iconst (q := 92) (1) h dX7_readBy_91 ki_1 rfl ?_
            refine j_iadd (q := 93) h dX7_readBy_92 rfl ?_
            refine j_aload_n (q := 94) h dX7_readBy_93 rfl rfl ?_
            refine j_gI (q := 97) h uin_X7 rfl rfl (by decide) rfl fl_X7_94 dX7_readBy_94 rfl hf (fun hf => ?_)
            refine j_icmp_ge (q := 100) 111 h dX7_readBy_97 (by decide) rfl hf (fun hf => ?_) (fun hf => ?_)
            · refine j_bipush (q := 113) (-6) h dX7_readBy_111 kb_m6 rfl ?_
              refine j_goto 121 h dX7_readBy_113 (by decide) ?_
              exact j_sub (lsub_s (lsub_s (lsub_s (lsub_s (lsub_s (lsub_n (lsub_n (lsub_n (lsub_n lsub_0))))))))) (w_X7_readBy_121 h ih hf)
            · refine j_aload_n (q := 101) h dX7_readBy_100 rfl rfl ?_
              refine j_gR (q := 104) h uin_X7 rfl rfl (by decide) rfl fl_X7_38 dX7_readBy_101 rfl hf (fun b20 hf => ?_)
              refine j_iload_n (q := 105) h dX7_readBy_104 rfl rfl ?_
              refine j_iconst (q := 106) (1) h dX7_readBy_105 ki_1 rfl ?_
              refine j_iadd (q := 107) h dX7_readBy_106 rfl ?_
              refine j_iald (q := 108) h dX7_readBy_107 rfl hf (fun hf => ?_)
              refine j_goto 121 h dX7_readBy_108 (by decide) ?_
              exact j_sub (lsub_s (lsub_s (lsub_s (lsub_s (lsub_s (lsub_n (lsub_n (lsub_n (lsub_n lsub_0))))))))) (w_X7_readBy_121 h ih hf)
set_option maxRecDepth 20000 in
theorem w_X7_readBy_38 {g : GT} {K : KT} {P : PT} {res : Int32 × VT} (h : OK g RX7 cX7_readBy 9 (some .int)) {l0 : Nat} {l1 : Int32} {l2 : Int32} {l3 : Int32} {V : VT} (hf : f_X7_readBy_38 K P l0 l1 l2 l3 V = some res) : J g rm_X7_readBy (QF g (some (.int res.1)) K P res.2 0 0) 9 K P V 0 0 38 [some (.ref l0), some (.int l1), some (.int l2), some (.int l3), none, none, none, none, none] [] := by
  rw [f_X7_readBy_38] at hf
  refine j_iconst (q := 39) (0) h dX7_readBy_38 ki_0 rfl ?_
  refine j_istore (q := 41) [_, _, _, _, _, _, _, _, _] h dX7_readBy_39 rfl (by decide) rfl rfl ?_
  exact j_sub (lsub_s (lsub_s (lsub_s (lsub_s (lsub_s (lsub_n (lsub_n (lsub_n (lsub_n lsub_0))))))))) (w_X7_readBy_41 h FU _ _ _ _ _ _ hf)
set_option maxRecDepth 20000 in
theorem w_X7_readBy_0 {g : GT} {K : KT} {P : PT} {res : Int32 × VT} (h : OK g RX7 cX7_readBy 9 (some .int)) {l0 : Nat} {l1 : Int32} {V : VT} (hf : f_X7_readBy K P l0 l1 V = some res) : J g rm_X7_readBy (QF g (some (.int res.1)) K P res.2 0 0) 9 K P V 0 0 0 [some (.ref l0), some (.int l1), none, none, none, none, none, none, none] [] := by
  rw [f_X7_readBy] at hf
  refine j_iconst (q := 1) (0) h dX7_readBy_0 ki_0 rfl ?_
  refine j_istore_n (q := 2) [_, _, _, _, _, _, _, _, _] h dX7_readBy_1 rfl (by decide) rfl rfl ?_
  refine j_iconst (q := 3) (0) h dX7_readBy_2 ki_0 rfl ?_
  refine j_istore_n (q := 4) [_, _, _, _, _, _, _, _, _] h dX7_readBy_3 rfl (by decide) rfl rfl ?_
  refine j_aload_n (q := 5) h dX7_readBy_4 rfl rfl ?_
  refine j_iload_n (q := 6) h dX7_readBy_5 rfl rfl ?_
  refine j_cVi (q := 9) (As := [.int _]) h rfl hf (fun _ hx => ct_X7_hasMark _ _ _ hx) ml_X7_87 vw_X7_hasMark rf_X7_readBy_X7_hasMark ⟨Nat.zero_le _, Nat.zero_le _⟩ (Nat.le_of_ble_eq_true rfl) dX7_readBy_6 rfl (fun _ _ hf => ?_)
  refine j_if_eq (q := 12) 38 h dX7_readBy_9 (by decide) rfl hf (fun hf => ?_) (fun hf => ?_)
  · exact j_sub (lsub_s (lsub_s (lsub_s (lsub_s (lsub_n (lsub_n (lsub_n (lsub_n (lsub_n lsub_0))))))))) (w_X7_readBy_38 h hf)
  · refine j_aload_n (q := 13) h dX7_readBy_12 rfl rfl ?_
    refine j_gI (q := 16) h uin_X7 rfl rfl (by decide) rfl fl_X7_94 dX7_readBy_13 rfl hf (fun hf => ?_)
    refine j_if_eq (q := 19) 34 h dX7_readBy_16 (by decide) rfl hf (fun hf => ?_) (fun hf => ?_)
    · refine j_iconst (q := 35) (0) h dX7_readBy_34 ki_0 rfl ?_
      exact j_iret h dX7_readBy_35 hf
    · refine j_aload_n (q := 20) h dX7_readBy_19 rfl rfl ?_
      refine j_gR (q := 23) h uin_X7 rfl rfl (by decide) rfl fl_X7_38 dX7_readBy_20 rfl hf (fun b4 hf => ?_)
      refine j_iconst (q := 24) (0) h dX7_readBy_23 ki_0 rfl ?_
      refine j_iald (q := 25) h dX7_readBy_24 rfl hf (fun hf => ?_)
      refine j_aload_n (q := 26) h dX7_readBy_25 rfl rfl ?_
      refine j_gR (q := 29) h uin_X7 rfl rfl (by decide) rfl fl_X7_13 dX7_readBy_26 rfl hf (fun b6 hf => ?_)
      refine j_iload_n (q := 30) h dX7_readBy_29 rfl rfl ?_
      refine j_iald (q := 31) h dX7_readBy_30 rfl hf (fun hf => ?_)
      refine j_icmp_eq (q := 34) 36 h dX7_readBy_31 (by decide) rfl hf (fun hf => ?_) (fun hf => ?_)
      · refine j_iconst (q := 37) (1) h dX7_readBy_36 ki_1 rfl ?_
        refine j_istore_n (q := 38) [_, _, _, _, _, _, _, _, _] h dX7_readBy_37 rfl (by decide) rfl rfl ?_
        exact j_sub (lsub_s (lsub_s (lsub_s (lsub_s (lsub_n (lsub_n (lsub_n (lsub_n (lsub_n lsub_0))))))))) (w_X7_readBy_38 h hf)
      · refine j_iconst (q := 35) (0) h dX7_readBy_34 ki_0 rfl ?_
        exact j_iret h dX7_readBy_35 hf
theorem ct_X7_readBy (l : Launch) (D : va_G) (T : TT) {K : KT} {P : PT} {l0 : Nat} {l1 : Int32} {V : VT} {res : Int32 × VT} (hf : f_X7_readBy K P l0 l1 V = some res) : CT l D T yX7_readBy cX7_readBy 9 (some .int) rm_X7_readBy K P V [.ref l0, .int l1] (some (.int res.1)) res.2 :=
  fun _ => CT_of pn_X7 (cat_a (cat_i cat_0)) (Nat.le_of_ble_eq_true rfl) [some (.ref l0), some (.int l1), none, none, none, none, none, none, none] rfl (fun _ _ _ h => w_X7_readBy_0 h hf)
