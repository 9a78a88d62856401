/-! QuotedLayers.grows(I)I -/
def rm_X6_grows : Room := { frames := 5, cells := 0, slots := 0, locals := 117 }
theorem rf_X6_grows_X6_isSign : RF rm_X6_isSign rm_X6_grows 1 := ⟨⟨by decide, by decide⟩, rfl, rfl⟩
theorem rf_X6_grows_X6_lengthOfLone : RF rm_X6_lengthOfLone rm_X6_grows 2 := ⟨⟨by decide, by decide⟩, rfl, rfl⟩
def f_X6_grows_31 (K : KT) (P : PT)  (V : VT) : Option (Int32 × VT) :=
  some ((-6 : Int32), V)
def f_X6_grows (K : KT) (P : PT) (l0 : Nat) (l1 : Int32) (V : VT) : Option (Int32 × VT) :=
  cS (f_X6_isSign K P l1 V) fun x2 V1 => if x2 = 0 then (some ((-2 : Int32), V1)) else (cV K l0 4 (f_X6_lengthOfLone K P l0 ((120 : Int32)) V1) fun x4 V3 => cV K l0 4 (f_X6_lengthOfLone K P l0 l1 V3) fun x6 V5 => if x4 < 0 then (f_X6_grows_31 K P V5) else (if x6 < 0 then (f_X6_grows_31 K P V5) else (some ((x6 - x4) + ((1 : Int32)), V5))))
set_option maxRecDepth 20000 in
theorem w_X6_grows_31 {g : GT} {K : KT} {P : PT} {res : Int32 × VT} (h : OK g RX6 cX6_grows 4 (some .int))  {V : VT} (hf : f_X6_grows_31 K P  V = some res) : J g rm_X6_grows (QF g (some (.int res.1)) K P res.2 0 0) 4 K P V 0 0 31 [none, none, none, none] [] := by
  rw [f_X6_grows_31] at hf
  refine j_bipush (q := 33) (-6) h dX6_grows_31 kb_m6 rfl ?_
  refine j_goto 41 h dX6_grows_33 (by decide) ?_
  exact j_iret h dX6_grows_41 hf
set_option maxRecDepth 20000 in
theorem w_X6_grows_0 {g : GT} {K : KT} {P : PT} {res : Int32 × VT} (h : OK g RX6 cX6_grows 4 (some .int)) {l0 : Nat} {l1 : Int32} {V : VT} (hf : f_X6_grows K P l0 l1 V = some res) : J g rm_X6_grows (QF g (some (.int res.1)) K P res.2 0 0) 4 K P V 0 0 0 [some (.ref l0), some (.int l1), none, none] [] := by
  rw [f_X6_grows] at hf
  refine j_iload_n (q := 1) h dX6_grows_0 rfl rfl ?_
  refine j_cSi (q := 4) (As := [.int _]) h rfl hf (fun _ hx => ct_X6_isSign _ _ _ hx) ml_X6_50 sw_X6_isSign rf_X6_grows_X6_isSign ⟨Nat.zero_le _, Nat.zero_le _⟩ (Nat.le_of_ble_eq_true rfl) dX6_grows_1 rfl (fun _ _ hf => ?_)
  refine j_if_ne (q := 7) 10 h dX6_grows_4 (by decide) rfl hf (fun hf => ?_) (fun hf => ?_)
  · refine j_aload_n (q := 11) h dX6_grows_10 rfl rfl ?_
    refine j_bipush (q := 13) (120) h dX6_grows_11 kb_120 rfl ?_
    refine j_cVi (q := 16) (As := [.int _]) h rfl hf (fun _ hx => ct_X6_lengthOfLone _ _ _ hx) ml_X6_120 vw_X6_lengthOfLone rf_X6_grows_X6_lengthOfLone ⟨Nat.zero_le _, Nat.zero_le _⟩ (Nat.le_of_ble_eq_true rfl) dX6_grows_13 rfl (fun _ _ hf => ?_)
    refine j_istore_n (q := 17) [_, _, _, _] h dX6_grows_16 rfl (by decide) rfl rfl ?_
    refine j_aload_n (q := 18) h dX6_grows_17 rfl rfl ?_
    refine j_iload_n (q := 19) h dX6_grows_18 rfl rfl ?_
    refine j_cVi (q := 22) (As := [.int _]) h rfl hf (fun _ hx => ct_X6_lengthOfLone _ _ _ hx) ml_X6_120 vw_X6_lengthOfLone rf_X6_grows_X6_lengthOfLone ⟨Nat.zero_le _, Nat.zero_le _⟩ (Nat.le_of_ble_eq_true rfl) dX6_grows_19 rfl (fun _ _ hf => ?_)
    refine j_istore_n (q := 23) [_, _, _, _] h dX6_grows_22 rfl (by decide) rfl rfl ?_
    refine j_iload_n (q := 24) h dX6_grows_23 rfl rfl ?_
    refine j_if_lt (q := 27) 31 h dX6_grows_24 (by decide) rfl hf (fun hf => ?_) (fun hf => ?_)
    · exact j_sub (lsub_n (lsub_n (lsub_n (lsub_n lsub_0)))) (w_X6_grows_31 h hf)
    · refine j_iload_n (q := 28) h dX6_grows_27 rfl rfl ?_
      refine j_if_ge (q := 31) 36 h dX6_grows_28 (by decide) rfl hf (fun hf => ?_) (fun hf => ?_)
      · refine j_iload_n (q := 37) h dX6_grows_36 rfl rfl ?_
        refine j_iload_n (q := 38) h dX6_grows_37 rfl rfl ?_
        refine j_isub (q := 39) h dX6_grows_38 rfl ?_
        refine j_iconst (q := 40) (1) h dX6_grows_39 ki_1 rfl ?_
        refine j_iadd (q := 41) h dX6_grows_40 rfl ?_
        exact j_iret h dX6_grows_41 hf
      · exact j_sub (lsub_n (lsub_n (lsub_n (lsub_n lsub_0)))) (w_X6_grows_31 h hf)
  · refine j_bipush (q := 9) (-2) h dX6_grows_7 kb_m2 rfl ?_
    exact j_iret h dX6_grows_9 hf
theorem ct_X6_grows (l : Launch) (D : va_G) (T : TT) {K : KT} {P : PT} {l0 : Nat} {l1 : Int32} {V : VT} {res : Int32 × VT} (hf : f_X6_grows K P l0 l1 V = some res) : CT l D T yX6_grows cX6_grows 4 (some .int) rm_X6_grows K P V [.ref l0, .int l1] (some (.int res.1)) res.2 :=
  fun _ => CT_of pn_X6 (cat_a (cat_i cat_0)) (Nat.le_of_ble_eq_true rfl) [some (.ref l0), some (.int l1), none, none] rfl (fun _ _ _ h => w_X6_grows_0 h hf)
/-! QuotedLayers.safe(I)I -/
def rm_X6_safe : Room := { frames := 5, cells := 0, slots := 0, locals := 117 }
theorem rf_X6_safe_X6_lengthOfLone : RF rm_X6_lengthOfLone rm_X6_safe 2 := ⟨⟨by decide, by decide⟩, rfl, rfl⟩
def f_X6_safe_51 (K : KT) (P : PT) (l1 : Int32) (l3 : Int32) (V : VT) : Option (Int32 × VT) :=
  if l1 = ((-1 : Int32)) then (some (l3, V)) else (some ((-6 : Int32), V))
def f_X6_safe_45 (K : KT) (P : PT) (k13 : Nat → Int32 → Int32 → Int32 → Int32 → VT → Option (Int32 × VT)) (l0 : Nat) (l1 : Int32) (l2 : Int32) (l3 : Int32) (l4 : Int32) (V : VT) : Option (Int32 × VT) :=
  k13 l0 l1 l2 l3 (l4 + (1 : Int32)) V
def f_X6_safe_13 (K : KT) (P : PT) : Nat → Nat → Int32 → Int32 → Int32 → Int32 → VT → Option (Int32 × VT)
  | 0, _, _, _, _, _, _ => none
  | n + 1, l0, l1, l2, l3, l4, V => if l2 < 0 then (f_X6_safe_51 K P l1 l3 V) else (if ((126 : Int32)) < l4 then (f_X6_safe_51 K P l1 l3 V) else (cV K l0 4 (f_X6_lengthOfLone K P l0 l4 V) fun x2 V1 => if x2 = l2 then (if l3 = l1 then (some (l4, V1)) else (f_X6_safe_45 K P (f_X6_safe_13 K P n) l0 l1 l2 (l3 + (1 : Int32)) l4 V1)) else (f_X6_safe_45 K P (f_X6_safe_13 K P n) l0 l1 l2 l3 l4 V1)))
def f_X6_safe (K : KT) (P : PT) (l0 : Nat) (l1 : Int32) (V : VT) : Option (Int32 × VT) :=
  cV K l0 4 (f_X6_lengthOfLone K P l0 ((120 : Int32)) V) fun x2 V1 => f_X6_safe_13 K P FU l0 l1 x2 ((0 : Int32)) ((33 : Int32)) V1
set_option maxRecDepth 20000 in
theorem w_X6_safe_51 {g : GT} {K : KT} {P : PT} {res : Int32 × VT} (h : OK g RX6 cX6_safe 5 (some .int)) {l1 : Int32} {l3 : Int32} {V : VT} (hf : f_X6_safe_51 K P l1 l3 V = some res) : J g rm_X6_safe (QF g (some (.int res.1)) K P res.2 0 0) 5 K P V 0 0 51 [none, some (.int l1), none, some (.int l3), none] [] := by
  rw [f_X6_safe_51] at hf
  refine j_iload_n (q := 52) h dX6_safe_51 rfl rfl ?_
  refine j_iconst (q := 53) (-1) h dX6_safe_52 ki_m1 rfl ?_
  refine j_icmp_ne (q := 56) 60 h dX6_safe_53 (by decide) rfl hf (fun hf => ?_) (fun hf => ?_)
  · refine j_bipush (q := 62) (-6) h dX6_safe_60 kb_m6 rfl ?_
    exact j_iret h dX6_safe_62 hf
  · refine j_iload_n (q := 57) h dX6_safe_56 rfl rfl ?_
    refine j_goto 62 h dX6_safe_57 (by decide) ?_
    exact j_iret h dX6_safe_62 hf
set_option maxRecDepth 20000 in
theorem w_X6_safe_45 {g : GT} {K : KT} {P : PT} {res : Int32 × VT} (h : OK g RX6 cX6_safe 5 (some .int)) {k13 : Nat → Int32 → Int32 → Int32 → Int32 → VT → Option (Int32 × VT)} (hk13 : ∀ (l0 : Nat) (l1 : Int32) (l2 : Int32) (l3 : Int32) (l4 : Int32) (V : VT), k13 l0 l1 l2 l3 l4 V = some res → J g rm_X6_safe (QF g (some (.int res.1)) K P res.2 0 0) 5 K P V 0 0 13 [some (.ref l0), some (.int l1), some (.int l2), some (.int l3), some (.int l4)] []) {l0 : Nat} {l1 : Int32} {l2 : Int32} {l3 : Int32} {l4 : Int32} {V : VT} (hf : f_X6_safe_45 K P k13 l0 l1 l2 l3 l4 V = some res) : J g rm_X6_safe (QF g (some (.int res.1)) K P res.2 0 0) 5 K P V 0 0 45 [some (.ref l0), some (.int l1), some (.int l2), some (.int l3), some (.int l4)] [] := by
  rw [f_X6_safe_45] at hf
  refine j_iinc (q := 48) _ [_, _, _, _, _] h dX6_safe_45 rfl (by decide) rfl (kc_1 _) rfl rfl ?_
  refine j_goto 13 h dX6_safe_48 (by decide) ?_
  exact j_sub (lsub_s (lsub_s (lsub_s (lsub_s (lsub_s lsub_0))))) (hk13 _ _ _ _ _ _ hf)
set_option maxRecDepth 20000 in
theorem w_X6_safe_13 {g : GT} {K : KT} {P : PT} {res : Int32 × VT} (h : OK g RX6 cX6_safe 5 (some .int)) : ∀ (n : Nat) (l0 : Nat) (l1 : Int32) (l2 : Int32) (l3 : Int32) (l4 : Int32) (V : VT), f_X6_safe_13 K P n l0 l1 l2 l3 l4 V = some res → J g rm_X6_safe (QF g (some (.int res.1)) K P res.2 0 0) 5 K P V 0 0 13 [some (.ref l0), some (.int l1), some (.int l2), some (.int l3), some (.int l4)] [] := by
  intro n
  induction n with
  | zero => intro l0 l1 l2 l3 l4 V hf; rw [f_X6_safe_13] at hf; cases hf
  | succ n ih =>
    intro l0 l1 l2 l3 l4 V hf
    rw [f_X6_safe_13] at hf
    refine j_iload_n (q := 14) h dX6_safe_13 rfl rfl ?_
    refine j_if_lt (q := 17) 51 h dX6_safe_14 (by decide) rfl hf (fun hf => ?_) (fun hf => ?_)
    · exact j_sub (lsub_n (lsub_s (lsub_n (lsub_s (lsub_n lsub_0))))) (w_X6_safe_51 h hf)
    · refine j_iload (q := 19) h dX6_safe_17 rfl rfl ?_
      refine j_bipush (q := 21) (126) h dX6_safe_19 kb_126 rfl ?_
      refine j_icmp_gt (q := 24) 51 h dX6_safe_21 (by decide) rfl hf (fun hf => ?_) (fun hf => ?_)
      · exact j_sub (lsub_n (lsub_s (lsub_n (lsub_s (lsub_n lsub_0))))) (w_X6_safe_51 h hf)
      · refine j_aload_n (q := 25) h dX6_safe_24 rfl rfl ?_
        refine j_iload (q := 27) h dX6_safe_25 rfl rfl ?_
        refine j_cVi (q := 30) (As := [.int _]) h rfl hf (fun _ hx => ct_X6_lengthOfLone _ _ _ hx) ml_X6_120 vw_X6_lengthOfLone rf_X6_safe_X6_lengthOfLone ⟨Nat.zero_le _, Nat.zero_le _⟩ (Nat.le_of_ble_eq_true rfl) dX6_safe_27 rfl (fun _ _ hf => ?_)
        refine j_iload_n (q := 31) h dX6_safe_30 rfl rfl ?_
        refine j_icmp_ne (q := 34) 45 h dX6_safe_31 (by decide) rfl hf (fun hf => ?_) (fun hf => ?_)
        · exact j_sub (lsub_s (lsub_s (lsub_s (lsub_s (lsub_s lsub_0))))) (w_X6_safe_45 h ih hf)
        · refine j_iload_n (q := 35) h dX6_safe_34 rfl rfl ?_
          refine j_iload_n (q := 36) h dX6_safe_35 rfl rfl ?_
          refine j_icmp_ne (q := 39) 42 h dX6_safe_36 (by decide) rfl hf (fun hf => ?_) (fun hf => ?_)
          · refine j_iinc (q := 45) _ [_, _, _, _, _] h dX6_safe_42 rfl (by decide) rfl (kc_1 _) rfl rfl ?_
            exact j_sub (lsub_s (lsub_s (lsub_s (lsub_s (lsub_s lsub_0))))) (w_X6_safe_45 h ih hf)
          · refine j_iload (q := 41) h dX6_safe_39 rfl rfl ?_
            exact j_iret h dX6_safe_41 hf
set_option maxRecDepth 20000 in
theorem w_X6_safe_0 {g : GT} {K : KT} {P : PT} {res : Int32 × VT} (h : OK g RX6 cX6_safe 5 (some .int)) {l0 : Nat} {l1 : Int32} {V : VT} (hf : f_X6_safe K P l0 l1 V = some res) : J g rm_X6_safe (QF g (some (.int res.1)) K P res.2 0 0) 5 K P V 0 0 0 [some (.ref l0), some (.int l1), none, none, none] [] := by
  rw [f_X6_safe] at hf
  refine j_aload_n (q := 1) h dX6_safe_0 rfl rfl ?_
  refine j_bipush (q := 3) (120) h dX6_safe_1 kb_120 rfl ?_
  refine j_cVi (q := 6) (As := [.int _]) h rfl hf (fun _ hx => ct_X6_lengthOfLone _ _ _ hx) ml_X6_120 vw_X6_lengthOfLone rf_X6_safe_X6_lengthOfLone ⟨Nat.zero_le _, Nat.zero_le _⟩ (Nat.le_of_ble_eq_true rfl) dX6_safe_3 rfl (fun _ _ hf => ?_)
  refine j_istore_n (q := 7) [_, _, _, _, _] h dX6_safe_6 rfl (by decide) rfl rfl ?_
  refine j_iconst (q := 8) (0) h dX6_safe_7 ki_0 rfl ?_
  refine j_istore_n (q := 9) [_, _, _, _, _] h dX6_safe_8 rfl (by decide) rfl rfl ?_
  refine j_bipush (q := 11) (33) h dX6_safe_9 kb_33 rfl ?_
  refine j_istore (q := 13) [_, _, _, _, _] h dX6_safe_11 rfl (by decide) rfl rfl ?_
  exact j_sub (lsub_s (lsub_s (lsub_s (lsub_s (lsub_s lsub_0))))) (w_X6_safe_13 h FU _ _ _ _ _ _ hf)
theorem ct_X6_safe (l : Launch) (D : va_G) (T : TT) {K : KT} {P : PT} {l0 : Nat} {l1 : Int32} {V : VT} {res : Int32 × VT} (hf : f_X6_safe K P l0 l1 V = some res) : CT l D T yX6_safe cX6_safe 5 (some .int) rm_X6_safe K P V [.ref l0, .int l1] (some (.int res.1)) res.2 :=
  fun _ => CT_of pn_X6 (cat_a (cat_i cat_0)) (Nat.le_of_ble_eq_true rfl) [some (.ref l0), some (.int l1), none, none, none] rfl (fun _ _ _ h => w_X6_safe_0 h hf)
/-! QuotedLayers.dearest()I -/
def rm_X6_dearest : Room := { frames := 5, cells := 0, slots := 0, locals := 117 }
theorem rf_X6_dearest_X6_lengthOfLone : RF rm_X6_lengthOfLone rm_X6_dearest 2 := ⟨⟨by decide, by decide⟩, rfl, rfl⟩
def f_X6_dearest_44 (K : KT) (P : PT) (k20 : Nat → Int32 → Int32 → Int32 → VT → Option (Int32 × VT)) (l0 : Nat) (l1 : Int32) (l2 : Int32) (l3 : Int32) (V : VT) : Option (Int32 × VT) :=
  k20 l0 l1 l2 (l3 + (1 : Int32)) V
def f_X6_dearest_20 (K : KT) (P : PT) : Nat → Nat → Int32 → Int32 → Int32 → VT → Option (Int32 × VT)
  | 0, _, _, _, _, _ => none
  | n + 1, l0, l1, l2, l3, V => if ((126 : Int32)) < l3 then (some (l1, V)) else (cV K l0 4 (f_X6_lengthOfLone K P l0 l3 V) fun x2 V1 => if l2 < x2 then (f_X6_dearest_44 K P (f_X6_dearest_20 K P n) l0 l3 x2 l3 V1) else (f_X6_dearest_44 K P (f_X6_dearest_20 K P n) l0 l1 l2 l3 V1))
def f_X6_dearest (K : KT) (P : PT) (l0 : Nat) (V : VT) : Option (Int32 × VT) :=
  cV K l0 4 (f_X6_lengthOfLone K P l0 ((120 : Int32)) V) fun x2 V1 => if x2 < 0 then (some ((-6 : Int32), V1)) else (f_X6_dearest_20 K P FU l0 ((-6 : Int32)) ((0 : Int32)) ((33 : Int32)) V1)
set_option maxRecDepth 20000 in
theorem w_X6_dearest_44 {g : GT} {K : KT} {P : PT} {res : Int32 × VT} (h : OK g RX6 cX6_dearest 5 (some .int)) {k20 : Nat → Int32 → Int32 → Int32 → VT → Option (Int32 × VT)} (hk20 : ∀ (l0 : Nat) (l1 : Int32) (l2 : Int32) (l3 : Int32) (V : VT), k20 l0 l1 l2 l3 V = some res → J g rm_X6_dearest (QF g (some (.int res.1)) K P res.2 0 0) 5 K P V 0 0 20 [some (.ref l0), some (.int l1), some (.int l2), some (.int l3), none] []) {l0 : Nat} {l1 : Int32} {l2 : Int32} {l3 : Int32} {V : VT} (hf : f_X6_dearest_44 K P k20 l0 l1 l2 l3 V = some res) : J g rm_X6_dearest (QF g (some (.int res.1)) K P res.2 0 0) 5 K P V 0 0 44 [some (.ref l0), some (.int l1), some (.int l2), some (.int l3), none] [] := by
  rw [f_X6_dearest_44] at hf
  refine j_iinc (q := 47) _ [_, _, _, _, _] h dX6_dearest_44 rfl (by decide) rfl (kc_1 _) rfl rfl ?_
  refine j_goto 20 h dX6_dearest_47 (by decide) ?_
  exact j_sub (lsub_s (lsub_s (lsub_s (lsub_s (lsub_n lsub_0))))) (hk20 _ _ _ _ _ hf)
set_option maxRecDepth 20000 in
theorem w_X6_dearest_20 {g : GT} {K : KT} {P : PT} {res : Int32 × VT} (h : OK g RX6 cX6_dearest 5 (some .int)) : ∀ (n : Nat) (l0 : Nat) (l1 : Int32) (l2 : Int32) (l3 : Int32) (V : VT), f_X6_dearest_20 K P n l0 l1 l2 l3 V = some res → J g rm_X6_dearest (QF g (some (.int res.1)) K P res.2 0 0) 5 K P V 0 0 20 [some (.ref l0), some (.int l1), some (.int l2), some (.int l3), none] [] := by
  intro n
  induction n with
  | zero => intro l0 l1 l2 l3 V hf; rw [f_X6_dearest_20] at hf; cases hf
  | succ n ih =>
    intro l0 l1 l2 l3 V hf
    rw [f_X6_dearest_20] at hf
    refine j_iload_n (q := 21) h dX6_dearest_20 rfl rfl ?_
    refine j_bipush (q := 23) (126) h dX6_dearest_21 kb_126 rfl ?_
    refine j_icmp_gt (q := 26) 50 h dX6_dearest_23 (by decide) rfl hf (fun hf => ?_) (fun hf => ?_)
    · refine j_iload_n (q := 51) h dX6_dearest_50 rfl rfl ?_
      exact j_iret h dX6_dearest_51 hf
    · refine j_aload_n (q := 27) h dX6_dearest_26 rfl rfl ?_
      refine j_iload_n (q := 28) h dX6_dearest_27 rfl rfl ?_
      refine j_cVi (q := 31) (As := [.int _]) h rfl hf (fun _ hx => ct_X6_lengthOfLone _ _ _ hx) ml_X6_120 vw_X6_lengthOfLone rf_X6_dearest_X6_lengthOfLone ⟨Nat.zero_le _, Nat.zero_le _⟩ (Nat.le_of_ble_eq_true rfl) dX6_dearest_28 rfl (fun _ _ hf => ?_)
      refine j_istore (q := 33) [_, _, _, _, _] h dX6_dearest_31 rfl (by decide) rfl rfl ?_
      refine j_iload (q := 35) h dX6_dearest_33 rfl rfl ?_
      refine j_iload_n (q := 36) h dX6_dearest_35 rfl rfl ?_
      refine j_icmp_le (q := 39) 44 h dX6_dearest_36 (by decide) rfl hf (fun hf => ?_) (fun hf => ?_)
      · exact j_sub (lsub_s (lsub_s (lsub_s (lsub_s (lsub_n lsub_0))))) (w_X6_dearest_44 h ih hf)
      · refine j_iload (q := 41) h dX6_dearest_39 rfl rfl ?_
        refine j_istore_n (q := 42) [_, _, _, _, _] h dX6_dearest_41 rfl (by decide) rfl rfl ?_
        refine j_iload_n (q := 43) h dX6_dearest_42 rfl rfl ?_
        refine j_istore_n (q := 44) [_, _, _, _, _] h dX6_dearest_43 rfl (by decide) rfl rfl ?_
        exact j_sub (lsub_s (lsub_s (lsub_s (lsub_s (lsub_n lsub_0))))) (w_X6_dearest_44 h ih hf)
set_option maxRecDepth 20000 in
theorem w_X6_dearest_0 {g : GT} {K : KT} {P : PT} {res : Int32 × VT} (h : OK g RX6 cX6_dearest 5 (some .int)) {l0 : Nat} {V : VT} (hf : f_X6_dearest K P l0 V = some res) : J g rm_X6_dearest (QF g (some (.int res.1)) K P res.2 0 0) 5 K P V 0 0 0 [some (.ref l0), none, none, none, none] [] := by
  rw [f_X6_dearest] at hf
  refine j_aload_n (q := 1) h dX6_dearest_0 rfl rfl ?_
  refine j_bipush (q := 3) (120) h dX6_dearest_1 kb_120 rfl ?_
  refine j_cVi (q := 6) (As := [.int _]) h rfl hf (fun _ hx => ct_X6_lengthOfLone _ _ _ hx) ml_X6_120 vw_X6_lengthOfLone rf_X6_dearest_X6_lengthOfLone ⟨Nat.zero_le _, Nat.zero_le _⟩ (Nat.le_of_ble_eq_true rfl) dX6_dearest_3 rfl (fun _ _ hf => ?_)
  refine j_if_ge (q := 9) 12 h dX6_dearest_6 (by decide) rfl hf (fun hf => ?_) (fun hf => ?_)
  · refine j_bipush (q := 14) (-6) h dX6_dearest_12 kb_m6 rfl ?_
    refine j_istore_n (q := 15) [_, _, _, _, _] h dX6_dearest_14 rfl (by decide) rfl rfl ?_
    refine j_iconst (q := 16) (0) h dX6_dearest_15 ki_0 rfl ?_
    refine j_istore_n (q := 17) [_, _, _, _, _] h dX6_dearest_16 rfl (by decide) rfl rfl ?_
    refine j_bipush (q := 19) (33) h dX6_dearest_17 kb_33 rfl ?_
    refine j_istore_n (q := 20) [_, _, _, _, _] h dX6_dearest_19 rfl (by decide) rfl rfl ?_
    exact j_sub (lsub_s (lsub_s (lsub_s (lsub_s (lsub_n lsub_0))))) (w_X6_dearest_20 h FU _ _ _ _ _ hf)
  · refine j_bipush (q := 11) (-6) h dX6_dearest_9 kb_m6 rfl ?_
    exact j_iret h dX6_dearest_11 hf
theorem ct_X6_dearest (l : Launch) (D : va_G) (T : TT) {K : KT} {P : PT} {l0 : Nat} {V : VT} {res : Int32 × VT} (hf : f_X6_dearest K P l0 V = some res) : CT l D T yX6_dearest cX6_dearest 5 (some .int) rm_X6_dearest K P V [.ref l0] (some (.int res.1)) res.2 :=
  fun _ => CT_of pn_X6 (cat_a cat_0) (Nat.le_of_ble_eq_true rfl) [some (.ref l0), none, none, none, none] rfl (fun _ _ _ h => w_X6_dearest_0 h hf)
/-! QuotedLayers.read(I)I -/
def rm_X6_read : Room := { frames := 4, cells := 0, slots := 0, locals := 97 }
theorem rf_X6_read_X3_badSign : RF rm_X3_badSign rm_X6_read 1 := ⟨⟨by decide, by decide⟩, rfl, rfl⟩
theorem rf_X6_read_X3_begin : RF rm_X3_begin rm_X6_read 2 := ⟨⟨by decide, by decide⟩, rfl, rfl⟩
theorem rf_X6_read_X3_here : RF rm_X3_here rm_X6_read 1 := ⟨⟨by decide, by decide⟩, rfl, rfl⟩
theorem rf_X6_read_X3_readBack : RF rm_X3_readBack rm_X6_read 4 := ⟨⟨by decide, by decide⟩, rfl, rfl⟩
theorem rf_X6_read_X4_at : RF rm_X4_at rm_X6_read 2 := ⟨⟨by decide, by decide⟩, rfl, rfl⟩
theorem rf_X6_read_X4_size : RF rm_X4_size rm_X6_read 1 := ⟨⟨by decide, by decide⟩, rfl, rfl⟩
def f_X6_read (K : KT) (P : PT) (l0 : Nat) (l1 : Int32) (V : VT) : Option (Int32 × VT) :=
  gR K P l0 4 0 fun b1 => cV K b1 2 (f_X4_size K P b1 V) fun x3 V2 => if x3 = 0 then (some ((-3 : Int32), V2)) else (gR K P l0 4 4 fun b4 => gR K P l0 4 0 fun b5 => cV K b4 1 (f_X3_begin K P b4 b5 V2) fun u7 V6 => gR K P l0 4 4 fun b8 => gR K P l0 4 1 fun b9 => gR K P l0 4 1 fun b10 => gR K P b10 3 2 fun b11 => cV K b8 1 (f_X3_readBack K P b8 b9 b11 V6) fun x13 V12 => if l1 = ((-1 : Int32)) then (some (x13, V12)) else (if l1 = ((-2 : Int32)) then (gR K P l0 4 4 fun b24 => cV K b24 1 (f_X3_badSign K P b24 V12) fun x26 V25 => some (x26, V25)) else (if x13 = ((-6 : Int32)) then (if l1 = ((-3 : Int32)) then (gR K P l0 4 4 fun b19 => cV K b19 1 (f_X3_here K P b19 V12) fun b21 V20 => cV K b21 2 (f_X4_size K P b21 V20) fun x23 V22 => some (x23, V22)) else (gR K P l0 4 4 fun b14 => cV K b14 1 (f_X3_here K P b14 V12) fun b16 V15 => cV K b16 2 (f_X4_at K P b16 l1 V15) fun x18 V17 => some (x18, V17))) else (some ((-6 : Int32), V12)))))
set_option maxRecDepth 20000 in
theorem w_X6_read_0 {g : GT} {K : KT} {P : PT} {res : Int32 × VT} (h : OK g RX6 cX6_read 3 (some .int)) {l0 : Nat} {l1 : Int32} {V : VT} (hf : f_X6_read K P l0 l1 V = some res) : J g rm_X6_read (QF g (some (.int res.1)) K P res.2 0 0) 3 K P V 0 0 0 [some (.ref l0), some (.int l1), none] [] := by
  rw [f_X6_read] at hf
  refine j_aload_n (q := 1) h dX6_read_0 rfl rfl ?_
  refine j_gR (q := 4) h uin_X6 rfl rfl (by decide) rfl fl_X6_14 dX6_read_1 rfl hf (fun b1 hf => ?_)
  refine j_cVi (q := 7) (As := []) h rfl hf (fun _ hx => ct_X4_size _ _ _ hx) ml_X6_54 vw_X4_size rf_X6_read_X4_size ⟨Nat.zero_le _, Nat.zero_le _⟩ (Nat.le_of_ble_eq_true rfl) dX6_read_4 rfl (fun _ _ hf => ?_)
  refine j_if_ne (q := 10) 13 h dX6_read_7 (by decide) rfl hf (fun hf => ?_) (fun hf => ?_)
  · refine j_aload_n (q := 14) h dX6_read_13 rfl rfl ?_
    refine j_gR (q := 17) h uin_X6 rfl rfl (by decide) rfl fl_X6_34 dX6_read_14 rfl hf (fun b4 hf => ?_)
    refine j_aload_n (q := 18) h dX6_read_17 rfl rfl ?_
    refine j_gR (q := 21) h uin_X6 rfl rfl (by decide) rfl fl_X6_14 dX6_read_18 rfl hf (fun b5 hf => ?_)
    refine j_cVv (q := 24) (As := [.ref _]) h rfl hf (fun _ hx => ct_X3_begin _ _ _ hx) ml_X6_123 vw_X3_begin rf_X6_read_X3_begin ⟨Nat.zero_le _, Nat.zero_le _⟩ (Nat.le_of_ble_eq_true rfl) dX6_read_21 rfl (fun _ _ hf => ?_)
    refine j_aload_n (q := 25) h dX6_read_24 rfl rfl ?_
    refine j_gR (q := 28) h uin_X6 rfl rfl (by decide) rfl fl_X6_34 dX6_read_25 rfl hf (fun b8 hf => ?_)
    refine j_aload_n (q := 29) h dX6_read_28 rfl rfl ?_
    refine j_gR (q := 32) h uin_X6 rfl rfl (by decide) rfl fl_X6_21 dX6_read_29 rfl hf (fun b9 hf => ?_)
    refine j_aload_n (q := 33) h dX6_read_32 rfl rfl ?_
    refine j_gR (q := 36) h uin_X6 rfl rfl (by decide) rfl fl_X6_21 dX6_read_33 rfl hf (fun b10 hf => ?_)
    refine j_gR (q := 39) h uin_X5 rfl rfl (by decide) rfl fl_X6_90 dX6_read_36 rfl hf (fun b11 hf => ?_)
    refine j_cVi (q := 42) (As := [.ref _, .ref _]) h rfl hf (fun _ hx => ct_X3_readBack _ _ _ hx) ml_X6_126 vw_X3_readBack rf_X6_read_X3_readBack ⟨Nat.zero_le _, Nat.zero_le _⟩ (Nat.le_of_ble_eq_true rfl) dX6_read_39 rfl (fun _ _ hf => ?_)
    refine j_istore_n (q := 43) [_, _, _] h dX6_read_42 rfl (by decide) rfl rfl ?_
    refine j_iload_n (q := 44) h dX6_read_43 rfl rfl ?_
    refine j_iconst (q := 45) (-1) h dX6_read_44 ki_m1 rfl ?_
    refine j_icmp_ne (q := 48) 50 h dX6_read_45 (by decide) rfl hf (fun hf => ?_) (fun hf => ?_)
    · refine j_iload_n (q := 51) h dX6_read_50 rfl rfl ?_
      refine j_bipush (q := 53) (-2) h dX6_read_51 kb_m2 rfl ?_
      refine j_icmp_ne (q := 56) 64 h dX6_read_53 (by decide) rfl hf (fun hf => ?_) (fun hf => ?_)
      · refine j_iload_n (q := 65) h dX6_read_64 rfl rfl ?_
        refine j_bipush (q := 67) (-6) h dX6_read_65 kb_m6 rfl ?_
        refine j_icmp_eq (q := 70) 73 h dX6_read_67 (by decide) rfl hf (fun hf => ?_) (fun hf => ?_)
        · refine j_iload_n (q := 74) h dX6_read_73 rfl rfl ?_
          refine j_bipush (q := 76) (-3) h dX6_read_74 kb_m3 rfl ?_
          refine j_icmp_ne (q := 79) 92 h dX6_read_76 (by decide) rfl hf (fun hf => ?_) (fun hf => ?_)
          · refine j_aload_n (q := 93) h dX6_read_92 rfl rfl ?_
            refine j_gR (q := 96) h uin_X6 rfl rfl (by decide) rfl fl_X6_34 dX6_read_93 rfl hf (fun b14 hf => ?_)
            refine j_cVa (q := 99) (As := []) h rfl hf (fun _ hx => ct_X3_here _ _ _ hx) ml_X6_110 vw_X3_here rf_X6_read_X3_here ⟨Nat.zero_le _, Nat.zero_le _⟩ (Nat.le_of_ble_eq_true rfl) dX6_read_96 rfl (fun b16 _ hf => ?_)
            refine j_iload_n (q := 100) h dX6_read_99 rfl rfl ?_
            refine j_cVi (q := 103) (As := [.int _]) h rfl hf (fun _ hx => ct_X4_at _ _ _ hx) ml_X6_114 vw_X4_at rf_X6_read_X4_at ⟨Nat.zero_le _, Nat.zero_le _⟩ (Nat.le_of_ble_eq_true rfl) dX6_read_100 rfl (fun _ _ hf => ?_)
            exact j_iret h dX6_read_103 hf
          · refine j_aload_n (q := 80) h dX6_read_79 rfl rfl ?_
            refine j_gR (q := 83) h uin_X6 rfl rfl (by decide) rfl fl_X6_34 dX6_read_80 rfl hf (fun b19 hf => ?_)
            refine j_cVa (q := 86) (As := []) h rfl hf (fun _ hx => ct_X3_here _ _ _ hx) ml_X6_110 vw_X3_here rf_X6_read_X3_here ⟨Nat.zero_le _, Nat.zero_le _⟩ (Nat.le_of_ble_eq_true rfl) dX6_read_83 rfl (fun b21 _ hf => ?_)
            refine j_cVi (q := 89) (As := []) h rfl hf (fun _ hx => ct_X4_size _ _ _ hx) ml_X6_54 vw_X4_size rf_X6_read_X4_size ⟨Nat.zero_le _, Nat.zero_le _⟩ (Nat.le_of_ble_eq_true rfl) dX6_read_86 rfl (fun _ _ hf => ?_)
            refine j_goto 103 h dX6_read_89 (by decide) ?_
            exact j_iret h dX6_read_103 hf
        · refine j_bipush (q := 72) (-6) h dX6_read_70 kb_m6 rfl ?_
          exact j_iret h dX6_read_72 hf
      · refine j_aload_n (q := 57) h dX6_read_56 rfl rfl ?_
        refine j_gR (q := 60) h uin_X6 rfl rfl (by decide) rfl fl_X6_34 dX6_read_57 rfl hf (fun b24 hf => ?_)
        refine j_cVi (q := 63) (As := []) h rfl hf (fun _ hx => ct_X3_badSign _ _ _ hx) ml_X6_130 vw_X3_badSign rf_X6_read_X3_badSign ⟨Nat.zero_le _, Nat.zero_le _⟩ (Nat.le_of_ble_eq_true rfl) dX6_read_60 rfl (fun _ _ hf => ?_)
        exact j_iret h dX6_read_63 hf
    · refine j_iload_n (q := 49) h dX6_read_48 rfl rfl ?_
      exact j_iret h dX6_read_49 hf
  · refine j_bipush (q := 12) (-3) h dX6_read_10 kb_m3 rfl ?_
    exact j_iret h dX6_read_12 hf
theorem ct_X6_read (l : Launch) (D : va_G) (T : TT) {K : KT} {P : PT} {l0 : Nat} {l1 : Int32} {V : VT} {res : Int32 × VT} (hf : f_X6_read K P l0 l1 V = some res) : CT l D T yX6_read cX6_read 3 (some .int) rm_X6_read K P V [.ref l0, .int l1] (some (.int res.1)) res.2 :=
  fun _ => CT_of pn_X6 (cat_a (cat_i cat_0)) (Nat.le_of_ble_eq_true rfl) [some (.ref l0), some (.int l1), none] rfl (fun _ _ _ h => w_X6_read_0 h hf)
/-! QuotedLayers.isPlace(I)Z -/
def rm_X6_isPlace : Room := { frames := 1, cells := 0, slots := 0, locals := 20 }
theorem rf_X6_isPlace_X4_size : RF rm_X4_size rm_X6_isPlace 1 := ⟨⟨by decide, by decide⟩, rfl, rfl⟩
def f_X6_isPlace (K : KT) (P : PT) (l0 : Nat) (l1 : Int32) (V : VT) : Option (Int32 × VT) :=
  if l1 < 0 then (rB ((0 : Int32)) V) else (gR K P l0 4 1 fun b1 => gR K P b1 3 2 fun b2 => cV K b2 2 (f_X4_size K P b2 V) fun x4 V3 => if l1 < x4 then (rB ((1 : Int32)) V3) else (rB ((0 : Int32)) V3))
set_option maxRecDepth 20000 in
theorem w_X6_isPlace_0 {g : GT} {K : KT} {P : PT} {res : Int32 × VT} (h : OK g RX6 cX6_isPlace 2 (some .boolean)) {l0 : Nat} {l1 : Int32} {V : VT} (hf : f_X6_isPlace K P l0 l1 V = some res) : J g rm_X6_isPlace (QF g (some (.int res.1)) K P res.2 0 0) 2 K P V 0 0 0 [some (.ref l0), some (.int l1)] [] := by
  rw [f_X6_isPlace] at hf
  refine j_iload_n (q := 1) h dX6_isPlace_0 rfl rfl ?_
  refine j_if_lt (q := 4) 22 h dX6_isPlace_1 (by decide) rfl hf (fun hf => ?_) (fun hf => ?_)
  · refine j_iconst (q := 23) (0) h dX6_isPlace_22 ki_0 rfl ?_
    exact j_zret h dX6_isPlace_23 hf
  · refine j_iload_n (q := 5) h dX6_isPlace_4 rfl rfl ?_
    refine j_aload_n (q := 6) h dX6_isPlace_5 rfl rfl ?_
    refine j_gR (q := 9) h uin_X6 rfl rfl (by decide) rfl fl_X6_21 dX6_isPlace_6 rfl hf (fun b1 hf => ?_)
    refine j_gR (q := 12) h uin_X5 rfl rfl (by decide) rfl fl_X6_90 dX6_isPlace_9 rfl hf (fun b2 hf => ?_)
    refine j_cVi (q := 15) (As := []) h rfl hf (fun _ hx => ct_X4_size _ _ _ hx) ml_X6_54 vw_X4_size rf_X6_isPlace_X4_size ⟨Nat.zero_le _, Nat.zero_le _⟩ (Nat.le_of_ble_eq_true rfl) dX6_isPlace_12 rfl (fun _ _ hf => ?_)
    refine j_icmp_ge (q := 18) 22 h dX6_isPlace_15 (by decide) rfl hf (fun hf => ?_) (fun hf => ?_)
    · refine j_iconst (q := 23) (0) h dX6_isPlace_22 ki_0 rfl ?_
      exact j_zret h dX6_isPlace_23 hf
    · refine j_iconst (q := 19) (1) h dX6_isPlace_18 ki_1 rfl ?_
      refine j_goto 23 h dX6_isPlace_19 (by decide) ?_
      exact j_zret h dX6_isPlace_23 hf
theorem ct_X6_isPlace (l : Launch) (D : va_G) (T : TT) {K : KT} {P : PT} {l0 : Nat} {l1 : Int32} {V : VT} {res : Int32 × VT} (hf : f_X6_isPlace K P l0 l1 V = some res) : CT l D T yX6_isPlace cX6_isPlace 2 (some .boolean) rm_X6_isPlace K P V [.ref l0, .int l1] (some (.int res.1)) res.2 :=
  fun _ => CT_of pn_X6 (cat_a (cat_i cat_0)) (Nat.le_of_ble_eq_true rfl) [some (.ref l0), some (.int l1)] rfl (fun _ _ _ h => w_X6_isPlace_0 h hf)
/-! QuotedLayers.outcome(LQuotedLayers$Row;LQuotedLayers$Row;I)I -/
def rm_X6_outcome : Room := { frames := 4, cells := 0, slots := 0, locals := 97 }
theorem rf_X6_outcome_X3_here : RF rm_X3_here rm_X6_outcome 1 := ⟨⟨by decide, by decide⟩, rfl, rfl⟩
theorem rf_X6_outcome_X3_putThrough : RF rm_X3_putThrough rm_X6_outcome 7 := ⟨⟨by decide, by decide⟩, rfl, rfl⟩
theorem rf_X6_outcome_X3_readBack : RF rm_X3_readBack rm_X6_outcome 4 := ⟨⟨by decide, by decide⟩, rfl, rfl⟩
theorem rf_X6_outcome_X4_sameAs : RF rm_X4_sameAs rm_X6_outcome 3 := ⟨⟨by decide, by decide⟩, rfl, rfl⟩
def f_X6_outcome (K : KT) (P : PT) (l0 : Nat) (l1 : Nat) (l2 : Nat) (l3 : Int32) (V : VT) : Option (Int32 × VT) :=
  gR K P l0 4 4 fun b1 => gR K P l0 4 1 fun b2 => cV K b1 1 (f_X3_putThrough K P b1 b2 l2 l1 l3 V) fun x4 V3 => if x4 = ((-7 : Int32)) then (some (x4, V3)) else (if x4 = ((-5 : Int32)) then (some (x4, V3)) else (gR K P l0 4 4 fun b5 => gR K P l0 4 1 fun b6 => gR K P l0 4 1 fun b7 => gR K P b7 3 2 fun b8 => cV K b5 1 (f_X3_readBack K P b5 b6 b8 V3) fun x10 V9 => if x10 = ((-6 : Int32)) then (gR K P l0 4 4 fun b11 => cV K b11 1 (f_X3_here K P b11 V9) fun b13 V12 => cV K b13 2 (f_X4_sameAs K P b13 l1 V12) fun x15 V14 => if x15 = 0 then (some ((1 : Int32), V14)) else (some ((0 : Int32), V14))) else (some ((2 : Int32), V9))))
set_option maxRecDepth 20000 in
theorem w_X6_outcome_0 {g : GT} {K : KT} {P : PT} {res : Int32 × VT} (h : OK g RX6 cX6_outcome 5 (some .int)) {l0 : Nat} {l1 : Nat} {l2 : Nat} {l3 : Int32} {V : VT} (hf : f_X6_outcome K P l0 l1 l2 l3 V = some res) : J g rm_X6_outcome (QF g (some (.int res.1)) K P res.2 0 0) 5 K P V 0 0 0 [some (.ref l0), some (.ref l1), some (.ref l2), some (.int l3), none] [] := by
  rw [f_X6_outcome] at hf
  refine j_aload_n (q := 1) h dX6_outcome_0 rfl rfl ?_
  refine j_gR (q := 4) h uin_X6 rfl rfl (by decide) rfl fl_X6_34 dX6_outcome_1 rfl hf (fun b1 hf => ?_)
  refine j_aload_n (q := 5) h dX6_outcome_4 rfl rfl ?_
  refine j_gR (q := 8) h uin_X6 rfl rfl (by decide) rfl fl_X6_21 dX6_outcome_5 rfl hf (fun b2 hf => ?_)
  refine j_aload_n (q := 9) h dX6_outcome_8 rfl rfl ?_
  refine j_aload_n (q := 10) h dX6_outcome_9 rfl rfl ?_
  refine j_iload_n (q := 11) h dX6_outcome_10 rfl rfl ?_
  refine j_cVi (q := 14) (As := [.ref _, .ref _, .ref _, .int _]) h rfl hf (fun _ hx => ct_X3_putThrough _ _ _ hx) ml_X6_106 vw_X3_putThrough rf_X6_outcome_X3_putThrough ⟨Nat.zero_le _, Nat.zero_le _⟩ (Nat.le_of_ble_eq_true rfl) dX6_outcome_11 rfl (fun _ _ hf => ?_)
  refine j_istore (q := 16) [_, _, _, _, _] h dX6_outcome_14 rfl (by decide) rfl rfl ?_
  refine j_iload (q := 18) h dX6_outcome_16 rfl rfl ?_
  refine j_bipush (q := 20) (-7) h dX6_outcome_18 kb_m7 rfl ?_
  refine j_icmp_eq (q := 23) 30 h dX6_outcome_20 (by decide) rfl hf (fun hf => ?_) (fun hf => ?_)
  · refine j_iload (q := 32) h dX6_outcome_30 rfl rfl ?_
    exact j_iret h dX6_outcome_32 hf
  · refine j_iload (q := 25) h dX6_outcome_23 rfl rfl ?_
    refine j_bipush (q := 27) (-5) h dX6_outcome_25 kb_m5 rfl ?_
    refine j_icmp_ne (q := 30) 33 h dX6_outcome_27 (by decide) rfl hf (fun hf => ?_) (fun hf => ?_)
    · refine j_aload_n (q := 34) h dX6_outcome_33 rfl rfl ?_
      refine j_gR (q := 37) h uin_X6 rfl rfl (by decide) rfl fl_X6_34 dX6_outcome_34 rfl hf (fun b5 hf => ?_)
      refine j_aload_n (q := 38) h dX6_outcome_37 rfl rfl ?_
      refine j_gR (q := 41) h uin_X6 rfl rfl (by decide) rfl fl_X6_21 dX6_outcome_38 rfl hf (fun b6 hf => ?_)
      refine j_aload_n (q := 42) h dX6_outcome_41 rfl rfl ?_
      refine j_gR (q := 45) h uin_X6 rfl rfl (by decide) rfl fl_X6_21 dX6_outcome_42 rfl hf (fun b7 hf => ?_)
      refine j_gR (q := 48) h uin_X5 rfl rfl (by decide) rfl fl_X6_90 dX6_outcome_45 rfl hf (fun b8 hf => ?_)
      refine j_cVi (q := 51) (As := [.ref _, .ref _]) h rfl hf (fun _ hx => ct_X3_readBack _ _ _ hx) ml_X6_126 vw_X3_readBack rf_X6_outcome_X3_readBack ⟨Nat.zero_le _, Nat.zero_le _⟩ (Nat.le_of_ble_eq_true rfl) dX6_outcome_48 rfl (fun _ _ hf => ?_)
      refine j_bipush (q := 53) (-6) h dX6_outcome_51 kb_m6 rfl ?_
      refine j_icmp_eq (q := 56) 58 h dX6_outcome_53 (by decide) rfl hf (fun hf => ?_) (fun hf => ?_)
      · refine j_aload_n (q := 59) h dX6_outcome_58 rfl rfl ?_
        refine j_gR (q := 62) h uin_X6 rfl rfl (by decide) rfl fl_X6_34 dX6_outcome_59 rfl hf (fun b11 hf => ?_)
        refine j_cVa (q := 65) (As := []) h rfl hf (fun _ hx => ct_X3_here _ _ _ hx) ml_X6_110 vw_X3_here rf_X6_outcome_X3_here ⟨Nat.zero_le _, Nat.zero_le _⟩ (Nat.le_of_ble_eq_true rfl) dX6_outcome_62 rfl (fun b13 _ hf => ?_)
        refine j_aload_n (q := 66) h dX6_outcome_65 rfl rfl ?_
        refine j_cVi (q := 69) (As := [.ref _]) h rfl hf (fun _ hx => ct_X4_sameAs _ _ _ hx) ml_X6_180 vw_X4_sameAs rf_X6_outcome_X4_sameAs ⟨Nat.zero_le _, Nat.zero_le _⟩ (Nat.le_of_ble_eq_true rfl) dX6_outcome_66 rfl (fun _ _ hf => ?_)
        refine j_if_eq (q := 72) 76 h dX6_outcome_69 (by decide) rfl hf (fun hf => ?_) (fun hf => ?_)
        · refine j_iconst (q := 77) (1) h dX6_outcome_76 ki_1 rfl ?_
          exact j_iret h dX6_outcome_77 hf
        · refine j_iconst (q := 73) (0) h dX6_outcome_72 ki_0 rfl ?_
          refine j_goto 77 h dX6_outcome_73 (by decide) ?_
          exact j_iret h dX6_outcome_77 hf
      · refine j_iconst (q := 57) (2) h dX6_outcome_56 ki_2 rfl ?_
        exact j_iret h dX6_outcome_57 hf
    · refine j_iload (q := 32) h dX6_outcome_30 rfl rfl ?_
      exact j_iret h dX6_outcome_32 hf
theorem ct_X6_outcome (l : Launch) (D : va_G) (T : TT) {K : KT} {P : PT} {l0 : Nat} {l1 : Nat} {l2 : Nat} {l3 : Int32} {V : VT} {res : Int32 × VT} (hf : f_X6_outcome K P l0 l1 l2 l3 V = some res) : CT l D T yX6_outcome cX6_outcome 5 (some .int) rm_X6_outcome K P V [.ref l0, .ref l1, .ref l2, .int l3] (some (.int res.1)) res.2 :=
  fun _ => CT_of pn_X6 (cat_a (cat_a (cat_a (cat_i cat_0)))) (Nat.le_of_ble_eq_true rfl) [some (.ref l0), some (.ref l1), some (.ref l2), some (.int l3), none] rfl (fun _ _ _ h => w_X6_outcome_0 h hf)
/-! QuotedLayers.spills(I)I -/
def rm_X6_spills : Room := { frames := 5, cells := 0, slots := 0, locals := 121 }
theorem rf_X6_spills_X6_isPlace : RF rm_X6_isPlace rm_X6_spills 2 := ⟨⟨by decide, by decide⟩, rfl, rfl⟩
theorem rf_X6_spills_X6_outcome : RF rm_X6_outcome rm_X6_spills 5 := ⟨⟨by decide, by decide⟩, rfl, rfl⟩
def f_X6_spills (K : KT) (P : PT) (l0 : Nat) (l1 : Int32) (V : VT) : Option (Int32 × VT) :=
  cV K l0 4 (f_X6_isPlace K P l0 l1 V) fun x2 V1 => if x2 = 0 then (some ((-2 : Int32), V1)) else (gR K P l0 4 1 fun b3 => gR K P b3 3 3 fun b4 => gR K P l0 4 1 fun b5 => gR K P b5 3 2 fun b6 => cV K l0 4 (f_X6_outcome K P l0 b4 b6 l1 V1) fun x8 V7 => some (x8, V7))
set_option maxRecDepth 20000 in
theorem w_X6_spills_0 {g : GT} {K : KT} {P : PT} {res : Int32 × VT} (h : OK g RX6 cX6_spills 2 (some .int)) {l0 : Nat} {l1 : Int32} {V : VT} (hf : f_X6_spills K P l0 l1 V = some res) : J g rm_X6_spills (QF g (some (.int res.1)) K P res.2 0 0) 2 K P V 0 0 0 [some (.ref l0), some (.int l1)] [] := by
  rw [f_X6_spills] at hf
  refine j_aload_n (q := 1) h dX6_spills_0 rfl rfl ?_
  refine j_iload_n (q := 2) h dX6_spills_1 rfl rfl ?_
  refine j_cVi (q := 5) (As := [.int _]) h rfl hf (fun _ hx => ct_X6_isPlace _ _ _ hx) ml_X6_133 vw_X6_isPlace rf_X6_spills_X6_isPlace ⟨Nat.zero_le _, Nat.zero_le _⟩ (Nat.le_of_ble_eq_true rfl) dX6_spills_2 rfl (fun _ _ hf => ?_)
  refine j_if_ne (q := 8) 11 h dX6_spills_5 (by decide) rfl hf (fun hf => ?_) (fun hf => ?_)
  · refine j_aload_n (q := 12) h dX6_spills_11 rfl rfl ?_
    refine j_aload_n (q := 13) h dX6_spills_12 rfl rfl ?_
    refine j_gR (q := 16) h uin_X6 rfl rfl (by decide) rfl fl_X6_21 dX6_spills_13 rfl hf (fun b3 hf => ?_)
    refine j_gR (q := 19) h uin_X5 rfl rfl (by decide) rfl fl_X6_96 dX6_spills_16 rfl hf (fun b4 hf => ?_)
    refine j_aload_n (q := 20) h dX6_spills_19 rfl rfl ?_
    refine j_gR (q := 23) h uin_X6 rfl rfl (by decide) rfl fl_X6_21 dX6_spills_20 rfl hf (fun b5 hf => ?_)
    refine j_gR (q := 26) h uin_X5 rfl rfl (by decide) rfl fl_X6_90 dX6_spills_23 rfl hf (fun b6 hf => ?_)
    refine j_iload_n (q := 27) h dX6_spills_26 rfl rfl ?_
    refine j_cVi (q := 30) (As := [.ref _, .ref _, .int _]) h rfl hf (fun _ hx => ct_X6_outcome _ _ _ hx) ml_X6_136 vw_X6_outcome rf_X6_spills_X6_outcome ⟨Nat.zero_le _, Nat.zero_le _⟩ (Nat.le_of_ble_eq_true rfl) dX6_spills_27 rfl (fun _ _ hf => ?_)
    exact j_iret h dX6_spills_30 hf
  · refine j_bipush (q := 10) (-2) h dX6_spills_8 kb_m2 rfl ?_
    exact j_iret h dX6_spills_10 hf
theorem ct_X6_spills (l : Launch) (D : va_G) (T : TT) {K : KT} {P : PT} {l0 : Nat} {l1 : Int32} {V : VT} {res : Int32 × VT} (hf : f_X6_spills K P l0 l1 V = some res) : CT l D T yX6_spills cX6_spills 2 (some .int) rm_X6_spills K P V [.ref l0, .int l1] (some (.int res.1)) res.2 :=
  fun _ => CT_of pn_X6 (cat_a (cat_i cat_0)) (Nat.le_of_ble_eq_true rfl) [some (.ref l0), some (.int l1)] rfl (fun _ _ _ h => w_X6_spills_0 h hf)
/-! QuotedLayers.padIsSpillRow()Z -/
def rm_X6_padIsSpillRow : Room := { frames := 1, cells := 0, slots := 0, locals := 23 }
theorem rf_X6_padIsSpillRow_X4_at : RF rm_X4_at rm_X6_padIsSpillRow 2 := ⟨⟨by decide, by decide⟩, rfl, rfl⟩
theorem rf_X6_padIsSpillRow_X4_hasAhead : RF rm_X4_hasAhead rm_X6_padIsSpillRow 4 := ⟨⟨by decide, by decide⟩, rfl, rfl⟩
theorem rf_X6_padIsSpillRow_X4_size : RF rm_X4_size rm_X6_padIsSpillRow 1 := ⟨⟨by decide, by decide⟩, rfl, rfl⟩
def f_X6_padIsSpillRow_26 (K : KT) (P : PT) : Nat → Nat → Int32 → VT → Option (Int32 × VT)
  | 0, _, _, _ => none
  | n + 1, l0, l1, V => gR K P l0 4 0 fun b1 => cV K b1 2 (f_X4_size K P b1 V) fun x3 V2 => if l1 < x3 then (gR K P l0 4 0 fun b4 => gR K P l0 4 0 fun b5 => cV K b5 2 (f_X4_at K P b5 l1 V2) fun x7 V6 => cV K b4 2 (f_X4_hasAhead K P b4 x7 l1 V6) fun x9 V8 => if x9 = 0 then ((f_X6_padIsSpillRow_26 K P n) l0 (l1 + (1 : Int32)) V8) else (rB ((0 : Int32)) V8)) else (rB ((1 : Int32)) V2)
def f_X6_padIsSpillRow (K : KT) (P : PT) (l0 : Nat) (V : VT) : Option (Int32 × VT) :=
  gR K P l0 4 0 fun b1 => cV K b1 2 (f_X4_size K P b1 V) fun x3 V2 => if x3 < ((1 : Int32)) then (rB ((0 : Int32)) V2) else (gR K P l0 4 0 fun b4 => cV K b4 2 (f_X4_size K P b4 V2) fun x6 V5 => if ((5 : Int32)) < x6 then (rB ((0 : Int32)) V5) else (f_X6_padIsSpillRow_26 K P FU l0 ((1 : Int32)) V5))
set_option maxRecDepth 20000 in
theorem w_X6_padIsSpillRow_26 {g : GT} {K : KT} {P : PT} {res : Int32 × VT} (h : OK g RX6 cX6_padIsSpillRow 2 (some .boolean)) : ∀ (n : Nat) (l0 : Nat) (l1 : Int32) (V : VT), f_X6_padIsSpillRow_26 K P n l0 l1 V = some res → J g rm_X6_padIsSpillRow (QF g (some (.int res.1)) K P res.2 0 0) 2 K P V 0 0 26 [some (.ref l0), some (.int l1)] [] := by
  intro n
  induction n with
  | zero => intro l0 l1 V hf; rw [f_X6_padIsSpillRow_26] at hf; cases hf
  | succ n ih =>
    intro l0 l1 V hf
    rw [f_X6_padIsSpillRow_26] at hf
    refine j_iload_n (q := 27) h dX6_padIsSpillRow_26 rfl rfl ?_
    refine j_aload_n (q := 28) h dX6_padIsSpillRow_27 rfl rfl ?_
    refine j_gR (q := 31) h uin_X6 rfl rfl (by decide) rfl fl_X6_14 dX6_padIsSpillRow_28 rfl hf (fun b1 hf => ?_)
    refine j_cVi (q := 34) (As := []) h rfl hf (fun _ hx => ct_X4_size _ _ _ hx) ml_X6_54 vw_X4_size rf_X6_padIsSpillRow_X4_size ⟨Nat.zero_le _, Nat.zero_le _⟩ (Nat.le_of_ble_eq_true rfl) dX6_padIsSpillRow_31 rfl (fun _ _ hf => ?_)
    refine j_icmp_ge (q := 37) 64 h dX6_padIsSpillRow_34 (by decide) rfl hf (fun hf => ?_) (fun hf => ?_)
    · refine j_iconst (q := 65) (1) h dX6_padIsSpillRow_64 ki_1 rfl ?_
      exact j_zret h dX6_padIsSpillRow_65 hf
    · refine j_aload_n (q := 38) h dX6_padIsSpillRow_37 rfl rfl ?_
      refine j_gR (q := 41) h uin_X6 rfl rfl (by decide) rfl fl_X6_14 dX6_padIsSpillRow_38 rfl hf (fun b4 hf => ?_)
      refine j_aload_n (q := 42) h dX6_padIsSpillRow_41 rfl rfl ?_
      refine j_gR (q := 45) h uin_X6 rfl rfl (by decide) rfl fl_X6_14 dX6_padIsSpillRow_42 rfl hf (fun b5 hf => ?_)
      refine j_iload_n (q := 46) h dX6_padIsSpillRow_45 rfl rfl ?_
      refine j_cVi (q := 49) (As := [.int _]) h rfl hf (fun _ hx => ct_X4_at _ _ _ hx) ml_X6_114 vw_X4_at rf_X6_padIsSpillRow_X4_at ⟨Nat.zero_le _, Nat.zero_le _⟩ (Nat.le_of_ble_eq_true rfl) dX6_padIsSpillRow_46 rfl (fun _ _ hf => ?_)
      refine j_iload_n (q := 50) h dX6_padIsSpillRow_49 rfl rfl ?_
      refine j_cVi (q := 53) (As := [.int _, .int _]) h rfl hf (fun _ hx => ct_X4_hasAhead _ _ _ hx) ml_X6_183 vw_X4_hasAhead rf_X6_padIsSpillRow_X4_hasAhead ⟨Nat.zero_le _, Nat.zero_le _⟩ (Nat.le_of_ble_eq_true rfl) dX6_padIsSpillRow_50 rfl (fun _ _ hf => ?_)
      refine j_if_eq (q := 56) 58 h dX6_padIsSpillRow_53 (by decide) rfl hf (fun hf => ?_) (fun hf => ?_)
      · refine j_iinc (q := 61) _ [_, _] h dX6_padIsSpillRow_58 rfl (by decide) rfl (kc_1 _) rfl rfl ?_
        refine j_goto 26 h dX6_padIsSpillRow_61 (by decide) ?_
        exact j_sub (lsub_s (lsub_s lsub_0)) (ih _ _ _ hf)
      · refine j_iconst (q := 57) (0) h dX6_padIsSpillRow_56 ki_0 rfl ?_
        exact j_zret h dX6_padIsSpillRow_57 hf
set_option maxRecDepth 20000 in
theorem w_X6_padIsSpillRow_0 {g : GT} {K : KT} {P : PT} {res : Int32 × VT} (h : OK g RX6 cX6_padIsSpillRow 2 (some .boolean)) {l0 : Nat} {V : VT} (hf : f_X6_padIsSpillRow K P l0 V = some res) : J g rm_X6_padIsSpillRow (QF g (some (.int res.1)) K P res.2 0 0) 2 K P V 0 0 0 [some (.ref l0), none] [] := by
  rw [f_X6_padIsSpillRow] at hf
  refine j_aload_n (q := 1) h dX6_padIsSpillRow_0 rfl rfl ?_
  refine j_gR (q := 4) h uin_X6 rfl rfl (by decide) rfl fl_X6_14 dX6_padIsSpillRow_1 rfl hf (fun b1 hf => ?_)
  refine j_cVi (q := 7) (As := []) h rfl hf (fun _ hx => ct_X4_size _ _ _ hx) ml_X6_54 vw_X4_size rf_X6_padIsSpillRow_X4_size ⟨Nat.zero_le _, Nat.zero_le _⟩ (Nat.le_of_ble_eq_true rfl) dX6_padIsSpillRow_4 rfl (fun _ _ hf => ?_)
  refine j_iconst (q := 8) (1) h dX6_padIsSpillRow_7 ki_1 rfl ?_
  refine j_icmp_lt (q := 11) 22 h dX6_padIsSpillRow_8 (by decide) rfl hf (fun hf => ?_) (fun hf => ?_)
  · refine j_iconst (q := 23) (0) h dX6_padIsSpillRow_22 ki_0 rfl ?_
    exact j_zret h dX6_padIsSpillRow_23 hf
  · refine j_aload_n (q := 12) h dX6_padIsSpillRow_11 rfl rfl ?_
    refine j_gR (q := 15) h uin_X6 rfl rfl (by decide) rfl fl_X6_14 dX6_padIsSpillRow_12 rfl hf (fun b4 hf => ?_)
    refine j_cVi (q := 18) (As := []) h rfl hf (fun _ hx => ct_X4_size _ _ _ hx) ml_X6_54 vw_X4_size rf_X6_padIsSpillRow_X4_size ⟨Nat.zero_le _, Nat.zero_le _⟩ (Nat.le_of_ble_eq_true rfl) dX6_padIsSpillRow_15 rfl (fun _ _ hf => ?_)
    refine j_iconst (q := 19) (5) h dX6_padIsSpillRow_18 ki_5 rfl ?_
    refine j_icmp_le (q := 22) 24 h dX6_padIsSpillRow_19 (by decide) rfl hf (fun hf => ?_) (fun hf => ?_)
    · refine j_iconst (q := 25) (1) h dX6_padIsSpillRow_24 ki_1 rfl ?_
      refine j_istore_n (q := 26) [_, _] h dX6_padIsSpillRow_25 rfl (by decide) rfl rfl ?_
      exact j_sub (lsub_s (lsub_s lsub_0)) (w_X6_padIsSpillRow_26 h FU _ _ _ hf)
    · refine j_iconst (q := 23) (0) h dX6_padIsSpillRow_22 ki_0 rfl ?_
      exact j_zret h dX6_padIsSpillRow_23 hf
theorem ct_X6_padIsSpillRow (l : Launch) (D : va_G) (T : TT) {K : KT} {P : PT} {l0 : Nat} {V : VT} {res : Int32 × VT} (hf : f_X6_padIsSpillRow K P l0 V = some res) : CT l D T yX6_padIsSpillRow cX6_padIsSpillRow 2 (some .boolean) rm_X6_padIsSpillRow K P V [.ref l0] (some (.int res.1)) res.2 :=
  fun _ => CT_of pn_X6 (cat_a cat_0) (Nat.le_of_ble_eq_true rfl) [some (.ref l0), none] rfl (fun _ _ _ h => w_X6_padIsSpillRow_0 h hf)
/-! QuotedLayers.spellTrial()V -/
def rm_X6_spellTrial : Room := { frames := 1, cells := 0, slots := 0, locals := 21 }
theorem rf_X6_spellTrial_X4_add : RF rm_X4_add rm_X6_spellTrial 2 := ⟨⟨by decide, by decide⟩, rfl, rfl⟩
theorem rf_X6_spellTrial_X4_at : RF rm_X4_at rm_X6_spellTrial 2 := ⟨⟨by decide, by decide⟩, rfl, rfl⟩
theorem rf_X6_spellTrial_X4_clear : RF rm_X4_clear rm_X6_spellTrial 1 := ⟨⟨by decide, by decide⟩, rfl, rfl⟩
theorem rf_X6_spellTrial_X4_size : RF rm_X4_size rm_X6_spellTrial 1 := ⟨⟨by decide, by decide⟩, rfl, rfl⟩
def f_X6_spellTrial_9 (K : KT) (P : PT) : Nat → Nat → Int32 → VT → Option (Unit × VT)
  | 0, _, _, _ => none
  | n + 1, l0, l1, V => gR K P l0 4 7 fun b1 => cV K b1 2 (f_X4_size K P b1 V) fun x3 V2 => if l1 < x3 then (gR K P l0 4 5 fun b4 => gR K P l0 4 0 fun b5 => gR K P l0 4 7 fun b6 => cV K b6 2 (f_X4_at K P b6 l1 V2) fun x8 V7 => cV K b5 2 (f_X4_at K P b5 x8 V7) fun x10 V9 => cV K b4 2 (f_X4_add K P b4 x10 V9) fun u12 V11 => (f_X6_spellTrial_9 K P n) l0 (l1 + (1 : Int32)) V11) else (some ((), V2))
def f_X6_spellTrial (K : KT) (P : PT) (l0 : Nat) (V : VT) : Option (Unit × VT) :=
  gR K P l0 4 5 fun b1 => cV K b1 2 (f_X4_clear K P b1 V) fun u3 V2 => f_X6_spellTrial_9 K P FU l0 ((0 : Int32)) V2
set_option maxRecDepth 20000 in
theorem w_X6_spellTrial_9 {g : GT} {K : KT} {P : PT} {res : Unit × VT} (h : OK g RX6 cX6_spellTrial 2 none) : ∀ (n : Nat) (l0 : Nat) (l1 : Int32) (V : VT), f_X6_spellTrial_9 K P n l0 l1 V = some res → J g rm_X6_spellTrial (QF g none K P res.2 0 0) 2 K P V 0 0 9 [some (.ref l0), some (.int l1)] [] := by
  intro n
  induction n with
  | zero => intro l0 l1 V hf; rw [f_X6_spellTrial_9] at hf; cases hf
  | succ n ih =>
    intro l0 l1 V hf
    rw [f_X6_spellTrial_9] at hf
    refine j_iload_n (q := 10) h dX6_spellTrial_9 rfl rfl ?_
    refine j_aload_n (q := 11) h dX6_spellTrial_10 rfl rfl ?_
    refine j_gR (q := 14) h uin_X6 rfl rfl (by decide) rfl fl_X6_44 dX6_spellTrial_11 rfl hf (fun b1 hf => ?_)
    refine j_cVi (q := 17) (As := []) h rfl hf (fun _ hx => ct_X4_size _ _ _ hx) ml_X6_54 vw_X4_size rf_X6_spellTrial_X4_size ⟨Nat.zero_le _, Nat.zero_le _⟩ (Nat.le_of_ble_eq_true rfl) dX6_spellTrial_14 rfl (fun _ _ hf => ?_)
    refine j_icmp_ge (q := 20) 48 h dX6_spellTrial_17 (by decide) rfl hf (fun hf => ?_) (fun hf => ?_)
    · exact j_vret h dX6_spellTrial_48 hf
    · refine j_aload_n (q := 21) h dX6_spellTrial_20 rfl rfl ?_
      refine j_gR (q := 24) h uin_X6 rfl rfl (by decide) rfl fl_X6_38 dX6_spellTrial_21 rfl hf (fun b4 hf => ?_)
      refine j_aload_n (q := 25) h dX6_spellTrial_24 rfl rfl ?_
      refine j_gR (q := 28) h uin_X6 rfl rfl (by decide) rfl fl_X6_14 dX6_spellTrial_25 rfl hf (fun b5 hf => ?_)
      refine j_aload_n (q := 29) h dX6_spellTrial_28 rfl rfl ?_
      refine j_gR (q := 32) h uin_X6 rfl rfl (by decide) rfl fl_X6_44 dX6_spellTrial_29 rfl hf (fun b6 hf => ?_)
      refine j_iload_n (q := 33) h dX6_spellTrial_32 rfl rfl ?_
      refine j_cVi (q := 36) (As := [.int _]) h rfl hf (fun _ hx => ct_X4_at _ _ _ hx) ml_X6_114 vw_X4_at rf_X6_spellTrial_X4_at ⟨Nat.zero_le _, Nat.zero_le _⟩ (Nat.le_of_ble_eq_true rfl) dX6_spellTrial_33 rfl (fun _ _ hf => ?_)
      refine j_cVi (q := 39) (As := [.int _]) h rfl hf (fun _ hx => ct_X4_at _ _ _ hx) ml_X6_114 vw_X4_at rf_X6_spellTrial_X4_at ⟨Nat.zero_le _, Nat.zero_le _⟩ (Nat.le_of_ble_eq_true rfl) dX6_spellTrial_36 rfl (fun _ _ hf => ?_)
      refine j_cVv (q := 42) (As := [.int _]) h rfl hf (fun _ hx => ct_X4_add _ _ _ hx) ml_X6_58 vw_X4_add rf_X6_spellTrial_X4_add ⟨Nat.zero_le _, Nat.zero_le _⟩ (Nat.le_of_ble_eq_true rfl) dX6_spellTrial_39 rfl (fun _ _ hf => ?_)
      refine j_iinc (q := 45) _ [_, _] h dX6_spellTrial_42 rfl (by decide) rfl (kc_1 _) rfl rfl ?_
      refine j_goto 9 h dX6_spellTrial_45 (by decide) ?_
      exact j_sub (lsub_s (lsub_s lsub_0)) (ih _ _ _ hf)
set_option maxRecDepth 20000 in
theorem w_X6_spellTrial_0 {g : GT} {K : KT} {P : PT} {res : Unit × VT} (h : OK g RX6 cX6_spellTrial 2 none) {l0 : Nat} {V : VT} (hf : f_X6_spellTrial K P l0 V = some res) : J g rm_X6_spellTrial (QF g none K P res.2 0 0) 2 K P V 0 0 0 [some (.ref l0), none] [] := by
  rw [f_X6_spellTrial] at hf
  refine j_aload_n (q := 1) h dX6_spellTrial_0 rfl rfl ?_
  refine j_gR (q := 4) h uin_X6 rfl rfl (by decide) rfl fl_X6_38 dX6_spellTrial_1 rfl hf (fun b1 hf => ?_)
  refine j_cVv (q := 7) (As := []) h rfl hf (fun _ hx => ct_X4_clear _ _ _ hx) ml_X6_61 vw_X4_clear rf_X6_spellTrial_X4_clear ⟨Nat.zero_le _, Nat.zero_le _⟩ (Nat.le_of_ble_eq_true rfl) dX6_spellTrial_4 rfl (fun _ _ hf => ?_)
  refine j_iconst (q := 8) (0) h dX6_spellTrial_7 ki_0 rfl ?_
  refine j_istore_n (q := 9) [_, _] h dX6_spellTrial_8 rfl (by decide) rfl rfl ?_
  exact j_sub (lsub_s (lsub_s lsub_0)) (w_X6_spellTrial_9 h FU _ _ _ hf)
theorem ct_X6_spellTrial (l : Launch) (D : va_G) (T : TT) {K : KT} {P : PT} {l0 : Nat} {V : VT} {res : Unit × VT} (hf : f_X6_spellTrial K P l0 V = some res) : CT l D T yX6_spellTrial cX6_spellTrial 2 none rm_X6_spellTrial K P V [.ref l0] none res.2 :=
  fun _ => CT_of pn_X6 (cat_a cat_0) (Nat.le_of_ble_eq_true rfl) [some (.ref l0), none] rfl (fun _ _ _ h => w_X6_spellTrial_0 h hf)
/-! QuotedLayers.findShortestSpill(I)Z -/
def rm_X6_findShortestSpill : Room := { frames := 5, cells := 0, slots := 0, locals := 121 }
theorem rf_X6_findShortestSpill_X0_nextDigits : RF rm_X0_nextDigits rm_X6_findShortestSpill 3 := ⟨⟨by decide, by decide⟩, rfl, rfl⟩
theorem rf_X6_findShortestSpill_X4_fillZeros : RF rm_X4_fillZeros rm_X6_findShortestSpill 3 := ⟨⟨by decide, by decide⟩, rfl, rfl⟩
theorem rf_X6_findShortestSpill_X4_size : RF rm_X4_size rm_X6_findShortestSpill 1 := ⟨⟨by decide, by decide⟩, rfl, rfl⟩
theorem rf_X6_findShortestSpill_X6_outcome : RF rm_X6_outcome rm_X6_findShortestSpill 5 := ⟨⟨by decide, by decide⟩, rfl, rfl⟩
theorem rf_X6_findShortestSpill_X6_spellTrial : RF rm_X6_spellTrial rm_X6_findShortestSpill 2 := ⟨⟨by decide, by decide⟩, rfl, rfl⟩
def f_X6_findShortestSpill_88 (K : KT) (P : PT) (k2 : Nat → Int32 → Int32 → VT → Option (Int32 × VT)) (l0 : Nat) (l1 : Int32) (l2 : Int32) (V : VT) : Option (Int32 × VT) :=
  k2 l0 l1 (l2 + (1 : Int32)) V
def f_X6_findShortestSpill_19 (K : KT) (P : PT) (k2 : Nat → Int32 → Int32 → VT → Option (Int32 × VT)) : Nat → Nat → Int32 → Int32 → Int32 → Int32 → VT → Option (Int32 × VT)
  | 0, _, _, _, _, _, _ => none
  | n + 1, l0, l1, l2, l3, l4, V => if l3 = 0 then (f_X6_findShortestSpill_88 K P k2 l0 l1 l2 V) else (if l4 < ((625 : Int32)) then (cV K l0 4 (f_X6_spellTrial K P l0 V) fun u2 V1 => gR K P l0 4 5 fun b3 => gR K P l0 4 1 fun b4 => gR K P b4 3 2 fun b5 => cV K l0 4 (f_X6_outcome K P l0 b3 b5 l1 V1) fun x7 V6 => if x7 = ((1 : Int32)) then (rB ((1 : Int32)) V6) else (if x7 = ((2 : Int32)) then (rB ((1 : Int32)) V6) else (gR K P l0 4 7 fun b8 => gR K P l0 4 0 fun b9 => cV K b9 2 (f_X4_size K P b9 V6) fun x11 V10 => cS (f_X0_nextDigits K P b8 x11 V10) fun x13 V12 => (f_X6_findShortestSpill_19 K P k2 n) l0 l1 l2 x13 (l4 + (1 : Int32)) V12))) else (f_X6_findShortestSpill_88 K P k2 l0 l1 l2 V))
def f_X6_findShortestSpill_2 (K : KT) (P : PT) : Nat → Nat → Int32 → Int32 → VT → Option (Int32 × VT)
  | 0, _, _, _, _ => none
  | n + 1, l0, l1, l2, V => if ((4 : Int32)) < l2 then (rB ((0 : Int32)) V) else (gR K P l0 4 7 fun b1 => cV K b1 2 (f_X4_fillZeros K P b1 l2 V) fun x3 V2 => f_X6_findShortestSpill_19 K P (f_X6_findShortestSpill_2 K P n) FU l0 l1 l2 x3 ((0 : Int32)) V2)
def f_X6_findShortestSpill (K : KT) (P : PT) (l0 : Nat) (l1 : Int32) (V : VT) : Option (Int32 × VT) :=
  f_X6_findShortestSpill_2 K P FU l0 l1 ((1 : Int32)) V
set_option maxRecDepth 20000 in
theorem w_X6_findShortestSpill_88 {g : GT} {K : KT} {P : PT} {res : Int32 × VT} (h : OK g RX6 cX6_findShortestSpill 6 (some .boolean)) {k2 : Nat → Int32 → Int32 → VT → Option (Int32 × VT)} (hk2 : ∀ (l0 : Nat) (l1 : Int32) (l2 : Int32) (V : VT), k2 l0 l1 l2 V = some res → J g rm_X6_findShortestSpill (QF g (some (.int res.1)) K P res.2 0 0) 6 K P V 0 0 2 [some (.ref l0), some (.int l1), some (.int l2), none, none, none] []) {l0 : Nat} {l1 : Int32} {l2 : Int32} {V : VT} (hf : f_X6_findShortestSpill_88 K P k2 l0 l1 l2 V = some res) : J g rm_X6_findShortestSpill (QF g (some (.int res.1)) K P res.2 0 0) 6 K P V 0 0 88 [some (.ref l0), some (.int l1), some (.int l2), none, none, none] [] := by
  rw [f_X6_findShortestSpill_88] at hf
  refine j_iinc (q := 91) _ [_, _, _, _, _, _] h dX6_findShortestSpill_88 rfl (by decide) rfl (kc_1 _) rfl rfl ?_
  refine j_goto 2 h dX6_findShortestSpill_91 (by decide) ?_
  exact j_sub (lsub_s (lsub_s (lsub_s (lsub_n (lsub_n (lsub_n lsub_0)))))) (hk2 _ _ _ _ hf)
set_option maxRecDepth 20000 in
theorem w_X6_findShortestSpill_19 {g : GT} {K : KT} {P : PT} {res : Int32 × VT} (h : OK g RX6 cX6_findShortestSpill 6 (some .boolean)) {k2 : Nat → Int32 → Int32 → VT → Option (Int32 × VT)} (hk2 : ∀ (l0 : Nat) (l1 : Int32) (l2 : Int32) (V : VT), k2 l0 l1 l2 V = some res → J g rm_X6_findShortestSpill (QF g (some (.int res.1)) K P res.2 0 0) 6 K P V 0 0 2 [some (.ref l0), some (.int l1), some (.int l2), none, none, none] []) : ∀ (n : Nat) (l0 : Nat) (l1 : Int32) (l2 : Int32) (l3 : Int32) (l4 : Int32) (V : VT), f_X6_findShortestSpill_19 K P k2 n l0 l1 l2 l3 l4 V = some res → J g rm_X6_findShortestSpill (QF g (some (.int res.1)) K P res.2 0 0) 6 K P V 0 0 19 [some (.ref l0), some (.int l1), some (.int l2), some (.int l3), some (.int l4), none] [] := by
  intro n
  induction n with
  | zero => intro l0 l1 l2 l3 l4 V hf; rw [f_X6_findShortestSpill_19] at hf; cases hf
  | succ n ih =>
    intro l0 l1 l2 l3 l4 V hf
    rw [f_X6_findShortestSpill_19] at hf
    refine j_iload_n (q := 20) h dX6_findShortestSpill_19 rfl rfl ?_
    refine j_if_eq (q := 23) 88 h dX6_findShortestSpill_20 (by decide) rfl hf (fun hf => ?_) (fun hf => ?_)
    · exact j_sub (lsub_s (lsub_s (lsub_s (lsub_n (lsub_n (lsub_n lsub_0)))))) (w_X6_findShortestSpill_88 h hk2 hf)
    · refine j_iload (q := 25) h dX6_findShortestSpill_23 rfl rfl ?_
      refine j_sipush (q := 28) (625) h dX6_findShortestSpill_25 ks_625 rfl ?_
      refine j_icmp_ge (q := 31) 88 h dX6_findShortestSpill_28 (by decide) rfl hf (fun hf => ?_) (fun hf => ?_)
      · exact j_sub (lsub_s (lsub_s (lsub_s (lsub_n (lsub_n (lsub_n lsub_0)))))) (w_X6_findShortestSpill_88 h hk2 hf)
      · refine j_aload_n (q := 32) h dX6_findShortestSpill_31 rfl rfl ?_
        refine j_cVv (q := 35) (As := []) h rfl hf (fun _ hx => ct_X6_spellTrial _ _ _ hx) ml_X6_187 vw_X6_spellTrial rf_X6_findShortestSpill_X6_spellTrial ⟨Nat.zero_le _, Nat.zero_le _⟩ (Nat.le_of_ble_eq_true rfl) dX6_findShortestSpill_32 rfl (fun _ _ hf => ?_)
        refine j_aload_n (q := 36) h dX6_findShortestSpill_35 rfl rfl ?_
        refine j_aload_n (q := 37) h dX6_findShortestSpill_36 rfl rfl ?_
        refine j_gR (q := 40) h uin_X6 rfl rfl (by decide) rfl fl_X6_38 dX6_findShortestSpill_37 rfl hf (fun b3 hf => ?_)
        refine j_aload_n (q := 41) h dX6_findShortestSpill_40 rfl rfl ?_
        refine j_gR (q := 44) h uin_X6 rfl rfl (by decide) rfl fl_X6_21 dX6_findShortestSpill_41 rfl hf (fun b4 hf => ?_)
        refine j_gR (q := 47) h uin_X5 rfl rfl (by decide) rfl fl_X6_90 dX6_findShortestSpill_44 rfl hf (fun b5 hf => ?_)
        refine j_iload_n (q := 48) h dX6_findShortestSpill_47 rfl rfl ?_
        refine j_cVi (q := 51) (As := [.ref _, .ref _, .int _]) h rfl hf (fun _ hx => ct_X6_outcome _ _ _ hx) ml_X6_136 vw_X6_outcome rf_X6_findShortestSpill_X6_outcome ⟨Nat.zero_le _, Nat.zero_le _⟩ (Nat.le_of_ble_eq_true rfl) dX6_findShortestSpill_48 rfl (fun _ _ hf => ?_)
        refine j_istore (q := 53) [_, _, _, _, _, _] h dX6_findShortestSpill_51 rfl (by decide) rfl rfl ?_
        refine j_iload (q := 55) h dX6_findShortestSpill_53 rfl rfl ?_
        refine j_iconst (q := 56) (1) h dX6_findShortestSpill_55 ki_1 rfl ?_
        refine j_icmp_eq (q := 59) 65 h dX6_findShortestSpill_56 (by decide) rfl hf (fun hf => ?_) (fun hf => ?_)
        · refine j_iconst (q := 66) (1) h dX6_findShortestSpill_65 ki_1 rfl ?_
          exact j_zret h dX6_findShortestSpill_66 hf
        · refine j_iload (q := 61) h dX6_findShortestSpill_59 rfl rfl ?_
          refine j_iconst (q := 62) (2) h dX6_findShortestSpill_61 ki_2 rfl ?_
          refine j_icmp_ne (q := 65) 67 h dX6_findShortestSpill_62 (by decide) rfl hf (fun hf => ?_) (fun hf => ?_)
          · refine j_aload_n (q := 68) h dX6_findShortestSpill_67 rfl rfl ?_
            refine j_gR (q := 71) h uin_X6 rfl rfl (by decide) rfl fl_X6_44 dX6_findShortestSpill_68 rfl hf (fun b8 hf => ?_)
            refine j_aload_n (q := 72) h dX6_findShortestSpill_71 rfl rfl ?_
            refine j_gR (q := 75) h uin_X6 rfl rfl (by decide) rfl fl_X6_14 dX6_findShortestSpill_72 rfl hf (fun b9 hf => ?_)
            refine j_cVi (q := 78) (As := []) h rfl hf (fun _ hx => ct_X4_size _ _ _ hx) ml_X6_54 vw_X4_size rf_X6_findShortestSpill_X4_size ⟨Nat.zero_le _, Nat.zero_le _⟩ (Nat.le_of_ble_eq_true rfl) dX6_findShortestSpill_75 rfl (fun _ _ hf => ?_)
            refine j_cSi (q := 81) (As := [.ref _, .int _]) h rfl hf (fun _ hx => ct_X0_nextDigits _ _ _ hx) ml_X6_157 sw_X0_nextDigits rf_X6_findShortestSpill_X0_nextDigits ⟨Nat.zero_le _, Nat.zero_le _⟩ (Nat.le_of_ble_eq_true rfl) dX6_findShortestSpill_78 rfl (fun _ _ hf => ?_)
            refine j_istore_n (q := 82) [_, _, _, _, _, _] h dX6_findShortestSpill_81 rfl (by decide) rfl rfl ?_
            refine j_iinc (q := 85) _ [_, _, _, _, _, _] h dX6_findShortestSpill_82 rfl (by decide) rfl (kc_1 _) rfl rfl ?_
            refine j_goto 19 h dX6_findShortestSpill_85 (by decide) ?_
            exact j_sub (lsub_s (lsub_s (lsub_s (lsub_s (lsub_s (lsub_n lsub_0)))))) (ih _ _ _ _ _ _ hf)
          · refine j_iconst (q := 66) (1) h dX6_findShortestSpill_65 ki_1 rfl ?_
            exact j_zret h dX6_findShortestSpill_66 hf
set_option maxRecDepth 20000 in
theorem w_X6_findShortestSpill_2 {g : GT} {K : KT} {P : PT} {res : Int32 × VT} (h : OK g RX6 cX6_findShortestSpill 6 (some .boolean)) : ∀ (n : Nat) (l0 : Nat) (l1 : Int32) (l2 : Int32) (V : VT), f_X6_findShortestSpill_2 K P n l0 l1 l2 V = some res → J g rm_X6_findShortestSpill (QF g (some (.int res.1)) K P res.2 0 0) 6 K P V 0 0 2 [some (.ref l0), some (.int l1), some (.int l2), none, none, none] [] := by
  intro n
  induction n with
  | zero => intro l0 l1 l2 V hf; rw [f_X6_findShortestSpill_2] at hf; cases hf
  | succ n ih =>
    intro l0 l1 l2 V hf
    rw [f_X6_findShortestSpill_2] at hf
    refine j_iload_n (q := 3) h dX6_findShortestSpill_2 rfl rfl ?_
    refine j_iconst (q := 4) (4) h dX6_findShortestSpill_3 ki_4 rfl ?_
    refine j_icmp_gt (q := 7) 94 h dX6_findShortestSpill_4 (by decide) rfl hf (fun hf => ?_) (fun hf => ?_)
    · refine j_iconst (q := 95) (0) h dX6_findShortestSpill_94 ki_0 rfl ?_
      exact j_zret h dX6_findShortestSpill_95 hf
    · refine j_aload_n (q := 8) h dX6_findShortestSpill_7 rfl rfl ?_
      refine j_gR (q := 11) h uin_X6 rfl rfl (by decide) rfl fl_X6_44 dX6_findShortestSpill_8 rfl hf (fun b1 hf => ?_)
      refine j_iload_n (q := 12) h dX6_findShortestSpill_11 rfl rfl ?_
      refine j_cVi (q := 15) (As := [.int _]) h rfl hf (fun _ hx => ct_X4_fillZeros _ _ _ hx) ml_X6_147 vw_X4_fillZeros rf_X6_findShortestSpill_X4_fillZeros ⟨Nat.zero_le _, Nat.zero_le _⟩ (Nat.le_of_ble_eq_true rfl) dX6_findShortestSpill_12 rfl (fun _ _ hf => ?_)
      refine j_istore_n (q := 16) [_, _, _, _, _, _] h dX6_findShortestSpill_15 rfl (by decide) rfl rfl ?_
      refine j_iconst (q := 17) (0) h dX6_findShortestSpill_16 ki_0 rfl ?_
      refine j_istore (q := 19) [_, _, _, _, _, _] h dX6_findShortestSpill_17 rfl (by decide) rfl rfl ?_
      exact j_sub (lsub_s (lsub_s (lsub_s (lsub_s (lsub_s (lsub_n lsub_0)))))) (w_X6_findShortestSpill_19 h ih FU _ _ _ _ _ _ hf)
set_option maxRecDepth 20000 in
theorem w_X6_findShortestSpill_0 {g : GT} {K : KT} {P : PT} {res : Int32 × VT} (h : OK g RX6 cX6_findShortestSpill 6 (some .boolean)) {l0 : Nat} {l1 : Int32} {V : VT} (hf : f_X6_findShortestSpill K P l0 l1 V = some res) : J g rm_X6_findShortestSpill (QF g (some (.int res.1)) K P res.2 0 0) 6 K P V 0 0 0 [some (.ref l0), some (.int l1), none, none, none, none] [] := by
  rw [f_X6_findShortestSpill] at hf
  refine j_iconst (q := 1) (1) h dX6_findShortestSpill_0 ki_1 rfl ?_
  refine j_istore_n (q := 2) [_, _, _, _, _, _] h dX6_findShortestSpill_1 rfl (by decide) rfl rfl ?_
  exact j_sub (lsub_s (lsub_s (lsub_s (lsub_n (lsub_n (lsub_n lsub_0)))))) (w_X6_findShortestSpill_2 h FU _ _ _ _ hf)
theorem ct_X6_findShortestSpill (l : Launch) (D : va_G) (T : TT) {K : KT} {P : PT} {l0 : Nat} {l1 : Int32} {V : VT} {res : Int32 × VT} (hf : f_X6_findShortestSpill K P l0 l1 V = some res) : CT l D T yX6_findShortestSpill cX6_findShortestSpill 6 (some .boolean) rm_X6_findShortestSpill K P V [.ref l0, .int l1] (some (.int res.1)) res.2 :=
  fun _ => CT_of pn_X6 (cat_a (cat_i cat_0)) (Nat.le_of_ble_eq_true rfl) [some (.ref l0), some (.int l1), none, none, none, none] rfl (fun _ _ _ h => w_X6_findShortestSpill_0 h hf)
/-! QuotedLayers.spill(II)I -/
def rm_X6_spill : Room := { frames := 6, cells := 0, slots := 0, locals := 146 }
theorem rf_X6_spill_X4_at : RF rm_X4_at rm_X6_spill 2 := ⟨⟨by decide, by decide⟩, rfl, rfl⟩
theorem rf_X6_spill_X4_size : RF rm_X4_size rm_X6_spill 1 := ⟨⟨by decide, by decide⟩, rfl, rfl⟩
theorem rf_X6_spill_X6_findShortestSpill : RF rm_X6_findShortestSpill rm_X6_spill 6 := ⟨⟨by decide, by decide⟩, rfl, rfl⟩
theorem rf_X6_spill_X6_isPlace : RF rm_X6_isPlace rm_X6_spill 2 := ⟨⟨by decide, by decide⟩, rfl, rfl⟩
theorem rf_X6_spill_X6_padIsSpillRow : RF rm_X6_padIsSpillRow rm_X6_spill 2 := ⟨⟨by decide, by decide⟩, rfl, rfl⟩
def f_X6_spill (K : KT) (P : PT) (l0 : Nat) (l1 : Int32) (l2 : Int32) (V : VT) : Option (Int32 × VT) :=
  cV K l0 4 (f_X6_isPlace K P l0 l1 V) fun x2 V1 => if x2 = 0 then (some ((-2 : Int32), V1)) else (cV K l0 4 (f_X6_padIsSpillRow K P l0 V1) fun x4 V3 => if x4 = 0 then (some ((-3 : Int32), V3)) else (cV K l0 4 (f_X6_findShortestSpill K P l0 l1 V3) fun x6 V5 => if x6 = 0 then (some ((-6 : Int32), V5)) else (if l2 = ((-1 : Int32)) then (gR K P l0 4 5 fun b10 => cV K b10 2 (f_X4_size K P b10 V5) fun x12 V11 => some (x12, V11)) else (gR K P l0 4 5 fun b7 => cV K b7 2 (f_X4_at K P b7 l2 V5) fun x9 V8 => some (x9, V8)))))
set_option maxRecDepth 20000 in
theorem w_X6_spill_0 {g : GT} {K : KT} {P : PT} {res : Int32 × VT} (h : OK g RX6 cX6_spill 3 (some .int)) {l0 : Nat} {l1 : Int32} {l2 : Int32} {V : VT} (hf : f_X6_spill K P l0 l1 l2 V = some res) : J g rm_X6_spill (QF g (some (.int res.1)) K P res.2 0 0) 3 K P V 0 0 0 [some (.ref l0), some (.int l1), some (.int l2)] [] := by
  rw [f_X6_spill] at hf
  refine j_aload_n (q := 1) h dX6_spill_0 rfl rfl ?_
  refine j_iload_n (q := 2) h dX6_spill_1 rfl rfl ?_
  refine j_cVi (q := 5) (As := [.int _]) h rfl hf (fun _ hx => ct_X6_isPlace _ _ _ hx) ml_X6_133 vw_X6_isPlace rf_X6_spill_X6_isPlace ⟨Nat.zero_le _, Nat.zero_le _⟩ (Nat.le_of_ble_eq_true rfl) dX6_spill_2 rfl (fun _ _ hf => ?_)
  refine j_if_ne (q := 8) 11 h dX6_spill_5 (by decide) rfl hf (fun hf => ?_) (fun hf => ?_)
  · refine j_aload_n (q := 12) h dX6_spill_11 rfl rfl ?_
    refine j_cVi (q := 15) (As := []) h rfl hf (fun _ hx => ct_X6_padIsSpillRow _ _ _ hx) ml_X6_140 vw_X6_padIsSpillRow rf_X6_spill_X6_padIsSpillRow ⟨Nat.zero_le _, Nat.zero_le _⟩ (Nat.le_of_ble_eq_true rfl) dX6_spill_12 rfl (fun _ _ hf => ?_)
    refine j_if_ne (q := 18) 21 h dX6_spill_15 (by decide) rfl hf (fun hf => ?_) (fun hf => ?_)
    · refine j_aload_n (q := 22) h dX6_spill_21 rfl rfl ?_
      refine j_iload_n (q := 23) h dX6_spill_22 rfl rfl ?_
      refine j_cVi (q := 26) (As := [.int _]) h rfl hf (fun _ hx => ct_X6_findShortestSpill _ _ _ hx) ml_X6_144 vw_X6_findShortestSpill rf_X6_spill_X6_findShortestSpill ⟨Nat.zero_le _, Nat.zero_le _⟩ (Nat.le_of_ble_eq_true rfl) dX6_spill_23 rfl (fun _ _ hf => ?_)
      refine j_if_ne (q := 29) 32 h dX6_spill_26 (by decide) rfl hf (fun hf => ?_) (fun hf => ?_)
      · refine j_iload_n (q := 33) h dX6_spill_32 rfl rfl ?_
        refine j_iconst (q := 34) (-1) h dX6_spill_33 ki_m1 rfl ?_
        refine j_icmp_ne (q := 37) 47 h dX6_spill_34 (by decide) rfl hf (fun hf => ?_) (fun hf => ?_)
        · refine j_aload_n (q := 48) h dX6_spill_47 rfl rfl ?_
          refine j_gR (q := 51) h uin_X6 rfl rfl (by decide) rfl fl_X6_38 dX6_spill_48 rfl hf (fun b7 hf => ?_)
          refine j_iload_n (q := 52) h dX6_spill_51 rfl rfl ?_
          refine j_cVi (q := 55) (As := [.int _]) h rfl hf (fun _ hx => ct_X4_at _ _ _ hx) ml_X6_114 vw_X4_at rf_X6_spill_X4_at ⟨Nat.zero_le _, Nat.zero_le _⟩ (Nat.le_of_ble_eq_true rfl) dX6_spill_52 rfl (fun _ _ hf => ?_)
          exact j_iret h dX6_spill_55 hf
        · refine j_aload_n (q := 38) h dX6_spill_37 rfl rfl ?_
          refine j_gR (q := 41) h uin_X6 rfl rfl (by decide) rfl fl_X6_38 dX6_spill_38 rfl hf (fun b10 hf => ?_)
          refine j_cVi (q := 44) (As := []) h rfl hf (fun _ hx => ct_X4_size _ _ _ hx) ml_X6_54 vw_X4_size rf_X6_spill_X4_size ⟨Nat.zero_le _, Nat.zero_le _⟩ (Nat.le_of_ble_eq_true rfl) dX6_spill_41 rfl (fun _ _ hf => ?_)
          refine j_goto 55 h dX6_spill_44 (by decide) ?_
          exact j_iret h dX6_spill_55 hf
      · refine j_bipush (q := 31) (-6) h dX6_spill_29 kb_m6 rfl ?_
        exact j_iret h dX6_spill_31 hf
    · refine j_bipush (q := 20) (-3) h dX6_spill_18 kb_m3 rfl ?_
      exact j_iret h dX6_spill_20 hf
  · refine j_bipush (q := 10) (-2) h dX6_spill_8 kb_m2 rfl ?_
    exact j_iret h dX6_spill_10 hf
theorem ct_X6_spill (l : Launch) (D : va_G) (T : TT) {K : KT} {P : PT} {l0 : Nat} {l1 : Int32} {l2 : Int32} {V : VT} {res : Int32 × VT} (hf : f_X6_spill K P l0 l1 l2 V = some res) : CT l D T yX6_spill cX6_spill 3 (some .int) rm_X6_spill K P V [.ref l0, .int l1, .int l2] (some (.int res.1)) res.2 :=
  fun _ => CT_of pn_X6 (cat_a (cat_i (cat_i cat_0))) (Nat.le_of_ble_eq_true rfl) [some (.ref l0), some (.int l1), some (.int l2)] rfl (fun _ _ _ h => w_X6_spill_0 h hf)
/-! QuotedLayers.twice(I)I -/
def rm_X6_twice : Room := { frames := 5, cells := 0, slots := 0, locals := 121 }
theorem rf_X6_twice_X4_add : RF rm_X4_add rm_X6_twice 2 := ⟨⟨by decide, by decide⟩, rfl, rfl⟩
theorem rf_X6_twice_X4_at : RF rm_X4_at rm_X6_twice 2 := ⟨⟨by decide, by decide⟩, rfl, rfl⟩
theorem rf_X6_twice_X4_clear : RF rm_X4_clear rm_X6_twice 1 := ⟨⟨by decide, by decide⟩, rfl, rfl⟩
theorem rf_X6_twice_X4_size : RF rm_X4_size rm_X6_twice 1 := ⟨⟨by decide, by decide⟩, rfl, rfl⟩
theorem rf_X6_twice_X6_isPlace : RF rm_X6_isPlace rm_X6_twice 2 := ⟨⟨by decide, by decide⟩, rfl, rfl⟩
theorem rf_X6_twice_X6_outcome : RF rm_X6_outcome rm_X6_twice 5 := ⟨⟨by decide, by decide⟩, rfl, rfl⟩
def f_X6_twice_75 (K : KT) (P : PT) (k20 : Nat → Int32 → Int32 → VT → Option (Int32 × VT)) (l0 : Nat) (l1 : Int32) (l2 : Int32) (V : VT) : Option (Int32 × VT) :=
  k20 l0 l1 (l2 + (1 : Int32)) V
def f_X6_twice_20 (K : KT) (P : PT) : Nat → Nat → Int32 → Int32 → VT → Option (Int32 × VT)
  | 0, _, _, _, _ => none
  | n + 1, l0, l1, l2, V => gR K P l0 4 1 fun b1 => gR K P b1 3 2 fun b2 => cV K b2 2 (f_X4_size K P b2 V) fun x4 V3 => if l2 < x4 then (gR K P l0 4 6 fun b10 => gR K P l0 4 1 fun b11 => gR K P b11 3 2 fun b12 => cV K b12 2 (f_X4_at K P b12 l2 V3) fun x14 V13 => cV K b10 2 (f_X4_add K P b10 x14 V13) fun u16 V15 => if l2 = l1 then (gR K P l0 4 6 fun b17 => gR K P l0 4 1 fun b18 => gR K P b18 3 2 fun b19 => cV K b19 2 (f_X4_at K P b19 l2 V15) fun x21 V20 => cV K b17 2 (f_X4_add K P b17 x21 V20) fun u23 V22 => f_X6_twice_75 K P (f_X6_twice_20 K P n) l0 l1 l2 V22) else (f_X6_twice_75 K P (f_X6_twice_20 K P n) l0 l1 l2 V15)) else (gR K P l0 4 1 fun b5 => gR K P b5 3 3 fun b6 => gR K P l0 4 6 fun b7 => cV K l0 4 (f_X6_outcome K P l0 b6 b7 ((-6 : Int32)) V3) fun x9 V8 => some (x9, V8))
def f_X6_twice (K : KT) (P : PT) (l0 : Nat) (l1 : Int32) (V : VT) : Option (Int32 × VT) :=
  cV K l0 4 (f_X6_isPlace K P l0 l1 V) fun x2 V1 => if x2 = 0 then (some ((-2 : Int32), V1)) else (gR K P l0 4 6 fun b3 => cV K b3 2 (f_X4_clear K P b3 V1) fun u5 V4 => f_X6_twice_20 K P FU l0 l1 ((0 : Int32)) V4)
set_option maxRecDepth 20000 in
theorem w_X6_twice_75 {g : GT} {K : KT} {P : PT} {res : Int32 × VT} (h : OK g RX6 cX6_twice 3 (some .int)) {k20 : Nat → Int32 → Int32 → VT → Option (Int32 × VT)} (hk20 : ∀ (l0 : Nat) (l1 : Int32) (l2 : Int32) (V : VT), k20 l0 l1 l2 V = some res → J g rm_X6_twice (QF g (some (.int res.1)) K P res.2 0 0) 3 K P V 0 0 20 [some (.ref l0), some (.int l1), some (.int l2)] []) {l0 : Nat} {l1 : Int32} {l2 : Int32} {V : VT} (hf : f_X6_twice_75 K P k20 l0 l1 l2 V = some res) : J g rm_X6_twice (QF g (some (.int res.1)) K P res.2 0 0) 3 K P V 0 0 75 [some (.ref l0), some (.int l1), some (.int l2)] [] := by
  rw [f_X6_twice_75] at hf
  refine j_iinc (q := 78) _ [_, _, _] h dX6_twice_75 rfl (by decide) rfl (kc_1 _) rfl rfl ?_
  refine j_goto 20 h dX6_twice_78 (by decide) ?_
  exact j_sub (lsub_s (lsub_s (lsub_s lsub_0))) (hk20 _ _ _ _ hf)
set_option maxRecDepth 20000 in
theorem w_X6_twice_20 {g : GT} {K : KT} {P : PT} {res : Int32 × VT} (h : OK g RX6 cX6_twice 3 (some .int)) : ∀ (n : Nat) (l0 : Nat) (l1 : Int32) (l2 : Int32) (V : VT), f_X6_twice_20 K P n l0 l1 l2 V = some res → J g rm_X6_twice (QF g (some (.int res.1)) K P res.2 0 0) 3 K P V 0 0 20 [some (.ref l0), some (.int l1), some (.int l2)] [] := by
  intro n
  induction n with
  | zero => intro l0 l1 l2 V hf; rw [f_X6_twice_20] at hf; cases hf
  | succ n ih =>
    intro l0 l1 l2 V hf
    rw [f_X6_twice_20] at hf
    refine j_iload_n (q := 21) h dX6_twice_20 rfl rfl ?_
    refine j_aload_n (q := 22) h dX6_twice_21 rfl rfl ?_
    refine j_gR (q := 25) h uin_X6 rfl rfl (by decide) rfl fl_X6_21 dX6_twice_22 rfl hf (fun b1 hf => ?_)
    refine j_gR (q := 28) h uin_X5 rfl rfl (by decide) rfl fl_X6_90 dX6_twice_25 rfl hf (fun b2 hf => ?_)
    refine j_cVi (q := 31) (As := []) h rfl hf (fun _ hx => ct_X4_size _ _ _ hx) ml_X6_54 vw_X4_size rf_X6_twice_X4_size ⟨Nat.zero_le _, Nat.zero_le _⟩ (Nat.le_of_ble_eq_true rfl) dX6_twice_28 rfl (fun _ _ hf => ?_)
    refine j_icmp_ge (q := 34) 81 h dX6_twice_31 (by decide) rfl hf (fun hf => ?_) (fun hf => ?_)
    · refine j_aload_n (q := 82) h dX6_twice_81 rfl rfl ?_
      refine j_aload_n (q := 83) h dX6_twice_82 rfl rfl ?_
      refine j_gR (q := 86) h uin_X6 rfl rfl (by decide) rfl fl_X6_21 dX6_twice_83 rfl hf (fun b5 hf => ?_)
      refine j_gR (q := 89) h uin_X5 rfl rfl (by decide) rfl fl_X6_96 dX6_twice_86 rfl hf (fun b6 hf => ?_)
      refine j_aload_n (q := 90) h dX6_twice_89 rfl rfl ?_
      refine j_gR (q := 93) h uin_X6 rfl rfl (by decide) rfl fl_X6_41 dX6_twice_90 rfl hf (fun b7 hf => ?_)
      refine j_bipush (q := 95) (-6) h dX6_twice_93 kb_m6 rfl ?_
      refine j_cVi (q := 98) (As := [.ref _, .ref _, .int _]) h rfl hf (fun _ hx => ct_X6_outcome _ _ _ hx) ml_X6_136 vw_X6_outcome rf_X6_twice_X6_outcome ⟨Nat.zero_le _, Nat.zero_le _⟩ (Nat.le_of_ble_eq_true rfl) dX6_twice_95 rfl (fun _ _ hf => ?_)
      exact j_iret h dX6_twice_98 hf
    · refine j_aload_n (q := 35) h dX6_twice_34 rfl rfl ?_
      refine j_gR (q := 38) h uin_X6 rfl rfl (by decide) rfl fl_X6_41 dX6_twice_35 rfl hf (fun b10 hf => ?_)
      refine j_aload_n (q := 39) h dX6_twice_38 rfl rfl ?_
      refine j_gR (q := 42) h uin_X6 rfl rfl (by decide) rfl fl_X6_21 dX6_twice_39 rfl hf (fun b11 hf => ?_)
      refine j_gR (q := 45) h uin_X5 rfl rfl (by decide) rfl fl_X6_90 dX6_twice_42 rfl hf (fun b12 hf => ?_)
      refine j_iload_n (q := 46) h dX6_twice_45 rfl rfl ?_
      refine j_cVi (q := 49) (As := [.int _]) h rfl hf (fun _ hx => ct_X4_at _ _ _ hx) ml_X6_114 vw_X4_at rf_X6_twice_X4_at ⟨Nat.zero_le _, Nat.zero_le _⟩ (Nat.le_of_ble_eq_true rfl) dX6_twice_46 rfl (fun _ _ hf => ?_)
      refine j_cVv (q := 52) (As := [.int _]) h rfl hf (fun _ hx => ct_X4_add _ _ _ hx) ml_X6_58 vw_X4_add rf_X6_twice_X4_add ⟨Nat.zero_le _, Nat.zero_le _⟩ (Nat.le_of_ble_eq_true rfl) dX6_twice_49 rfl (fun _ _ hf => ?_)
      refine j_iload_n (q := 53) h dX6_twice_52 rfl rfl ?_
      refine j_iload_n (q := 54) h dX6_twice_53 rfl rfl ?_
      refine j_icmp_ne (q := 57) 75 h dX6_twice_54 (by decide) rfl hf (fun hf => ?_) (fun hf => ?_)
      · exact j_sub (lsub_s (lsub_s (lsub_s lsub_0))) (w_X6_twice_75 h ih hf)
      · refine j_aload_n (q := 58) h dX6_twice_57 rfl rfl ?_
        refine j_gR (q := 61) h uin_X6 rfl rfl (by decide) rfl fl_X6_41 dX6_twice_58 rfl hf (fun b17 hf => ?_)
        refine j_aload_n (q := 62) h dX6_twice_61 rfl rfl ?_
        refine j_gR (q := 65) h uin_X6 rfl rfl (by decide) rfl fl_X6_21 dX6_twice_62 rfl hf (fun b18 hf => ?_)
        refine j_gR (q := 68) h uin_X5 rfl rfl (by decide) rfl fl_X6_90 dX6_twice_65 rfl hf (fun b19 hf => ?_)
        refine j_iload_n (q := 69) h dX6_twice_68 rfl rfl ?_
        refine j_cVi (q := 72) (As := [.int _]) h rfl hf (fun _ hx => ct_X4_at _ _ _ hx) ml_X6_114 vw_X4_at rf_X6_twice_X4_at ⟨Nat.zero_le _, Nat.zero_le _⟩ (Nat.le_of_ble_eq_true rfl) dX6_twice_69 rfl (fun _ _ hf => ?_)
        refine j_cVv (q := 75) (As := [.int _]) h rfl hf (fun _ hx => ct_X4_add _ _ _ hx) ml_X6_58 vw_X4_add rf_X6_twice_X4_add ⟨Nat.zero_le _, Nat.zero_le _⟩ (Nat.le_of_ble_eq_true rfl) dX6_twice_72 rfl (fun _ _ hf => ?_)
        exact j_sub (lsub_s (lsub_s (lsub_s lsub_0))) (w_X6_twice_75 h ih hf)
set_option maxRecDepth 20000 in
theorem w_X6_twice_0 {g : GT} {K : KT} {P : PT} {res : Int32 × VT} (h : OK g RX6 cX6_twice 3 (some .int)) {l0 : Nat} {l1 : Int32} {V : VT} (hf : f_X6_twice K P l0 l1 V = some res) : J g rm_X6_twice (QF g (some (.int res.1)) K P res.2 0 0) 3 K P V 0 0 0 [some (.ref l0), some (.int l1), none] [] := by
  rw [f_X6_twice] at hf
  refine j_aload_n (q := 1) h dX6_twice_0 rfl rfl ?_
  refine j_iload_n (q := 2) h dX6_twice_1 rfl rfl ?_
  refine j_cVi (q := 5) (As := [.int _]) h rfl hf (fun _ hx => ct_X6_isPlace _ _ _ hx) ml_X6_133 vw_X6_isPlace rf_X6_twice_X6_isPlace ⟨Nat.zero_le _, Nat.zero_le _⟩ (Nat.le_of_ble_eq_true rfl) dX6_twice_2 rfl (fun _ _ hf => ?_)
  refine j_if_ne (q := 8) 11 h dX6_twice_5 (by decide) rfl hf (fun hf => ?_) (fun hf => ?_)
  · refine j_aload_n (q := 12) h dX6_twice_11 rfl rfl ?_
    refine j_gR (q := 15) h uin_X6 rfl rfl (by decide) rfl fl_X6_41 dX6_twice_12 rfl hf (fun b3 hf => ?_)
    refine j_cVv (q := 18) (As := []) h rfl hf (fun _ hx => ct_X4_clear _ _ _ hx) ml_X6_61 vw_X4_clear rf_X6_twice_X4_clear ⟨Nat.zero_le _, Nat.zero_le _⟩ (Nat.le_of_ble_eq_true rfl) dX6_twice_15 rfl (fun _ _ hf => ?_)
    refine j_iconst (q := 19) (0) h dX6_twice_18 ki_0 rfl ?_
    refine j_istore_n (q := 20) [_, _, _] h dX6_twice_19 rfl (by decide) rfl rfl ?_
    exact j_sub (lsub_s (lsub_s (lsub_s lsub_0))) (w_X6_twice_20 h FU _ _ _ _ hf)
  · refine j_bipush (q := 10) (-2) h dX6_twice_8 kb_m2 rfl ?_
    exact j_iret h dX6_twice_10 hf
theorem ct_X6_twice (l : Launch) (D : va_G) (T : TT) {K : KT} {P : PT} {l0 : Nat} {l1 : Int32} {V : VT} {res : Int32 × VT} (hf : f_X6_twice K P l0 l1 V = some res) : CT l D T yX6_twice cX6_twice 3 (some .int) rm_X6_twice K P V [.ref l0, .int l1] (some (.int res.1)) res.2 :=
  fun _ => CT_of pn_X6 (cat_a (cat_i cat_0)) (Nat.le_of_ble_eq_true rfl) [some (.ref l0), some (.int l1), none] rfl (fun _ _ _ h => w_X6_twice_0 h hf)
/-! QuotedLayers.readsPadWholly(LQuotedLayers$Row;)Z -/
def rm_X6_readsPadWholly : Room := { frames := 4, cells := 0, slots := 0, locals := 97 }
theorem rf_X6_readsPadWholly_X1_isAsAtFirst : RF rm_X1_isAsAtFirst rm_X6_readsPadWholly 1 := ⟨⟨by decide, by decide⟩, rfl, rfl⟩
theorem rf_X6_readsPadWholly_X3_begin : RF rm_X3_begin rm_X6_readsPadWholly 2 := ⟨⟨by decide, by decide⟩, rfl, rfl⟩
theorem rf_X6_readsPadWholly_X3_readBack : RF rm_X3_readBack rm_X6_readsPadWholly 4 := ⟨⟨by decide, by decide⟩, rfl, rfl⟩
theorem rf_X6_readsPadWholly_X4_at : RF rm_X4_at rm_X6_readsPadWholly 2 := ⟨⟨by decide, by decide⟩, rfl, rfl⟩
theorem rf_X6_readsPadWholly_X4_size : RF rm_X4_size rm_X6_readsPadWholly 1 := ⟨⟨by decide, by decide⟩, rfl, rfl⟩
theorem rf_X6_readsPadWholly_X5_layerAt : RF rm_X5_layerAt rm_X6_readsPadWholly 2 := ⟨⟨by decide, by decide⟩, rfl, rfl⟩
def f_X6_readsPadWholly_2 (K : KT) (P : PT) : Nat → Nat → Nat → Int32 → VT → Option (Int32 × VT)
  | 0, _, _, _, _ => none
  | n + 1, l0, l1, l2, V => cV K l1 2 (f_X4_size K P l1 V) fun x2 V1 => if l2 < x2 then (gR K P l0 4 1 fun b11 => cV K l1 2 (f_X4_at K P l1 l2 V1) fun x13 V12 => cV K b11 3 (f_X5_layerAt K P b11 x13 V12) fun b15 V14 => cV K b15 0 (f_X1_isAsAtFirst K P b15 V14) fun x17 V16 => if x17 = 0 then ((f_X6_readsPadWholly_2 K P n) l0 l1 (l2 + (1 : Int32)) V16) else (rB ((0 : Int32)) V16)) else (gR K P l0 4 4 fun b3 => gR K P l0 4 0 fun b4 => cV K b3 1 (f_X3_begin K P b3 b4 V1) fun u6 V5 => gR K P l0 4 4 fun b7 => gR K P l0 4 1 fun b8 => cV K b7 1 (f_X3_readBack K P b7 b8 l1 V5) fun x10 V9 => if x10 = ((-6 : Int32)) then (rB ((1 : Int32)) V9) else (rB ((0 : Int32)) V9))
def f_X6_readsPadWholly (K : KT) (P : PT) (l0 : Nat) (l1 : Nat) (V : VT) : Option (Int32 × VT) :=
  f_X6_readsPadWholly_2 K P FU l0 l1 ((0 : Int32)) V
set_option maxRecDepth 20000 in
theorem w_X6_readsPadWholly_2 {g : GT} {K : KT} {P : PT} {res : Int32 × VT} (h : OK g RX6 cX6_readsPadWholly 3 (some .boolean)) : ∀ (n : Nat) (l0 : Nat) (l1 : Nat) (l2 : Int32) (V : VT), f_X6_readsPadWholly_2 K P n l0 l1 l2 V = some res → J g rm_X6_readsPadWholly (QF g (some (.int res.1)) K P res.2 0 0) 3 K P V 0 0 2 [some (.ref l0), some (.ref l1), some (.int l2)] [] := by
  intro n
  induction n with
  | zero => intro l0 l1 l2 V hf; rw [f_X6_readsPadWholly_2] at hf; cases hf
  | succ n ih =>
    intro l0 l1 l2 V hf
    rw [f_X6_readsPadWholly_2] at hf
    refine j_iload_n (q := 3) h dX6_readsPadWholly_2 rfl rfl ?_
    refine j_aload_n (q := 4) h dX6_readsPadWholly_3 rfl rfl ?_
    refine j_cVi (q := 7) (As := []) h rfl hf (fun _ hx => ct_X4_size _ _ _ hx) ml_X6_54 vw_X4_size rf_X6_readsPadWholly_X4_size ⟨Nat.zero_le _, Nat.zero_le _⟩ (Nat.le_of_ble_eq_true rfl) dX6_readsPadWholly_4 rfl (fun _ _ hf => ?_)
    refine j_icmp_ge (q := 10) 36 h dX6_readsPadWholly_7 (by decide) rfl hf (fun hf => ?_) (fun hf => ?_)
    · refine j_aload_n (q := 37) h dX6_readsPadWholly_36 rfl rfl ?_
      refine j_gR (q := 40) h uin_X6 rfl rfl (by decide) rfl fl_X6_34 dX6_readsPadWholly_37 rfl hf (fun b3 hf => ?_)
      refine j_aload_n (q := 41) h dX6_readsPadWholly_40 rfl rfl ?_
      refine j_gR (q := 44) h uin_X6 rfl rfl (by decide) rfl fl_X6_14 dX6_readsPadWholly_41 rfl hf (fun b4 hf => ?_)
      refine j_cVv (q := 47) (As := [.ref _]) h rfl hf (fun _ hx => ct_X3_begin _ _ _ hx) ml_X6_123 vw_X3_begin rf_X6_readsPadWholly_X3_begin ⟨Nat.zero_le _, Nat.zero_le _⟩ (Nat.le_of_ble_eq_true rfl) dX6_readsPadWholly_44 rfl (fun _ _ hf => ?_)
      refine j_aload_n (q := 48) h dX6_readsPadWholly_47 rfl rfl ?_
      refine j_gR (q := 51) h uin_X6 rfl rfl (by decide) rfl fl_X6_34 dX6_readsPadWholly_48 rfl hf (fun b7 hf => ?_)
      refine j_aload_n (q := 52) h dX6_readsPadWholly_51 rfl rfl ?_
      refine j_gR (q := 55) h uin_X6 rfl rfl (by decide) rfl fl_X6_21 dX6_readsPadWholly_52 rfl hf (fun b8 hf => ?_)
      refine j_aload_n (q := 56) h dX6_readsPadWholly_55 rfl rfl ?_
      refine j_cVi (q := 59) (As := [.ref _, .ref _]) h rfl hf (fun _ hx => ct_X3_readBack _ _ _ hx) ml_X6_126 vw_X3_readBack rf_X6_readsPadWholly_X3_readBack ⟨Nat.zero_le _, Nat.zero_le _⟩ (Nat.le_of_ble_eq_true rfl) dX6_readsPadWholly_56 rfl (fun _ _ hf => ?_)
      refine j_bipush (q := 61) (-6) h dX6_readsPadWholly_59 kb_m6 rfl ?_
      refine j_icmp_ne (q := 64) 68 h dX6_readsPadWholly_61 (by decide) rfl hf (fun hf => ?_) (fun hf => ?_)
      · refine j_iconst (q := 69) (0) h dX6_readsPadWholly_68 ki_0 rfl ?_
        exact j_zret h dX6_readsPadWholly_69 hf
      · refine j_iconst (q := 65) (1) h dX6_readsPadWholly_64 ki_1 rfl ?_
        refine j_goto 69 h dX6_readsPadWholly_65 (by decide) ?_
        exact j_zret h dX6_readsPadWholly_69 hf
    · refine j_aload_n (q := 11) h dX6_readsPadWholly_10 rfl rfl ?_
      refine j_gR (q := 14) h uin_X6 rfl rfl (by decide) rfl fl_X6_21 dX6_readsPadWholly_11 rfl hf (fun b11 hf => ?_)
      refine j_aload_n (q := 15) h dX6_readsPadWholly_14 rfl rfl ?_
      refine j_iload_n (q := 16) h dX6_readsPadWholly_15 rfl rfl ?_
      refine j_cVi (q := 19) (As := [.int _]) h rfl hf (fun _ hx => ct_X4_at _ _ _ hx) ml_X6_114 vw_X4_at rf_X6_readsPadWholly_X4_at ⟨Nat.zero_le _, Nat.zero_le _⟩ (Nat.le_of_ble_eq_true rfl) dX6_readsPadWholly_16 rfl (fun _ _ hf => ?_)
      refine j_cVa (q := 22) (As := [.int _]) h rfl hf (fun _ hx => ct_X5_layerAt _ _ _ hx) ml_X6_73 vw_X5_layerAt rf_X6_readsPadWholly_X5_layerAt ⟨Nat.zero_le _, Nat.zero_le _⟩ (Nat.le_of_ble_eq_true rfl) dX6_readsPadWholly_19 rfl (fun b15 _ hf => ?_)
      refine j_cVi (q := 25) (As := []) h rfl hf (fun _ hx => ct_X1_isAsAtFirst _ _ _ hx) ml_X6_190 vw_X1_isAsAtFirst rf_X6_readsPadWholly_X1_isAsAtFirst ⟨Nat.zero_le _, Nat.zero_le _⟩ (Nat.le_of_ble_eq_true rfl) dX6_readsPadWholly_22 rfl (fun _ _ hf => ?_)
      refine j_if_eq (q := 28) 30 h dX6_readsPadWholly_25 (by decide) rfl hf (fun hf => ?_) (fun hf => ?_)
      · refine j_iinc (q := 33) _ [_, _, _] h dX6_readsPadWholly_30 rfl (by decide) rfl (kc_1 _) rfl rfl ?_
        refine j_goto 2 h dX6_readsPadWholly_33 (by decide) ?_
        exact j_sub (lsub_s (lsub_s (lsub_s lsub_0))) (ih _ _ _ _ hf)
      · refine j_iconst (q := 29) (0) h dX6_readsPadWholly_28 ki_0 rfl ?_
        exact j_zret h dX6_readsPadWholly_29 hf
set_option maxRecDepth 20000 in
theorem w_X6_readsPadWholly_0 {g : GT} {K : KT} {P : PT} {res : Int32 × VT} (h : OK g RX6 cX6_readsPadWholly 3 (some .boolean)) {l0 : Nat} {l1 : Nat} {V : VT} (hf : f_X6_readsPadWholly K P l0 l1 V = some res) : J g rm_X6_readsPadWholly (QF g (some (.int res.1)) K P res.2 0 0) 3 K P V 0 0 0 [some (.ref l0), some (.ref l1), none] [] := by
  rw [f_X6_readsPadWholly] at hf
  refine j_iconst (q := 1) (0) h dX6_readsPadWholly_0 ki_0 rfl ?_
  refine j_istore_n (q := 2) [_, _, _] h dX6_readsPadWholly_1 rfl (by decide) rfl rfl ?_
  exact j_sub (lsub_s (lsub_s (lsub_s lsub_0))) (w_X6_readsPadWholly_2 h FU _ _ _ _ hf)
theorem ct_X6_readsPadWholly (l : Launch) (D : va_G) (T : TT) {K : KT} {P : PT} {l0 : Nat} {l1 : Nat} {V : VT} {res : Int32 × VT} (hf : f_X6_readsPadWholly K P l0 l1 V = some res) : CT l D T yX6_readsPadWholly cX6_readsPadWholly 3 (some .boolean) rm_X6_readsPadWholly K P V [.ref l0, .ref l1] (some (.int res.1)) res.2 :=
  fun _ => CT_of pn_X6 (cat_a (cat_a cat_0)) (Nat.le_of_ble_eq_true rfl) [some (.ref l0), some (.ref l1), none] rfl (fun _ _ _ h => w_X6_readsPadWholly_0 h hf)
