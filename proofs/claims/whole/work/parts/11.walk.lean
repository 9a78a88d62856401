/-! QuotedLayers$Row.isOver()Z -/
def rm_X4_isOver : Room := { frames := 0, cells := 0, slots := 0, locals := 0 }
def f_X4_isOver (K : KT) (P : PT) (l0 : Nat) (V : VT) : Option (Int32 × VT) :=
  gI K V l0 2 2 fun x1 => rB x1 V
set_option maxRecDepth 20000 in
theorem w_X4_isOver_0 {g : GT} {K : KT} {P : PT} {res : Int32 × VT} (h : OK g RX4 cX4_isOver 1 (some .boolean)) {l0 : Nat} {V : VT} (hf : f_X4_isOver K P l0 V = some res) : J g rm_X4_isOver (QF g (some (.int res.1)) K P res.2 0 0) 1 K P V 0 0 0 [some (.ref l0)] [] := by
  rw [f_X4_isOver] at hf
  refine j_aload_n (q := 1) h dX4_isOver_0 rfl rfl ?_
  refine j_gI (q := 4) h uin_X4 rfl rfl (by decide) rfl fl_X4_15 dX4_isOver_1 rfl hf (fun hf => ?_)
  exact j_zret h dX4_isOver_4 hf
theorem ct_X4_isOver (l : Launch) (D : va_G) (T : TT) {K : KT} {P : PT} {l0 : Nat} {V : VT} {res : Int32 × VT} (hf : f_X4_isOver K P l0 V = some res) : CT l D T yX4_isOver cX4_isOver 1 (some .boolean) rm_X4_isOver K P V [.ref l0] (some (.int res.1)) res.2 :=
  fun _ => CT_of pn_X4 (cat_a cat_0) (Nat.le_of_ble_eq_true rfl) [some (.ref l0)] rfl (fun _ _ _ h => w_X4_isOver_0 h hf)
/-! QuotedLayers$Layer.put(LQuotedLayers$Row;LQuotedLayers$Row;Z)I -/
def rm_X1_put : Room := { frames := 2, cells := 0, slots := 0, locals := 44 }
theorem rf_X1_put_X1_addMark : RF rm_X1_addMark rm_X1_put 2 := ⟨⟨by decide, by decide⟩, rfl, rfl⟩
theorem rf_X1_put_X1_meansSomething : RF rm_X1_meansSomething rm_X1_put 2 := ⟨⟨by decide, by decide⟩, rfl, rfl⟩
theorem rf_X1_put_X1_putMasked : RF rm_X1_putMasked rm_X1_put 3 := ⟨⟨by decide, by decide⟩, rfl, rfl⟩
theorem rf_X1_put_X4_add : RF rm_X4_add rm_X1_put 2 := ⟨⟨by decide, by decide⟩, rfl, rfl⟩
theorem rf_X1_put_X4_at : RF rm_X4_at rm_X1_put 2 := ⟨⟨by decide, by decide⟩, rfl, rfl⟩
theorem rf_X1_put_X4_clear : RF rm_X4_clear rm_X1_put 1 := ⟨⟨by decide, by decide⟩, rfl, rfl⟩
theorem rf_X1_put_X4_isOver : RF rm_X4_isOver rm_X1_put 1 := ⟨⟨by decide, by decide⟩, rfl, rfl⟩
theorem rf_X1_put_X4_size : RF rm_X4_size rm_X1_put 1 := ⟨⟨by decide, by decide⟩, rfl, rfl⟩
def f_X1_put_85 (K : KT) (P : PT) (k12 : Nat → Nat → Nat → Int32 → Int32 → VT → Option (Int32 × VT)) (l0 : Nat) (l1 : Nat) (l2 : Nat) (l3 : Int32) (l4 : Int32) (V : VT) : Option (Int32 × VT) :=
  k12 l0 l1 l2 l3 (l4 + (1 : Int32)) V
def f_X1_put_64 (K : KT) (P : PT) (k12 : Nat → Nat → Nat → Int32 → Int32 → VT → Option (Int32 × VT)) (l0 : Nat) (l1 : Nat) (l2 : Nat) (l3 : Int32) (l4 : Int32) (l5 : Int32) (l6 : Int32) (V : VT) : Option (Int32 × VT) :=
  if l6 = 0 then (cV K l0 0 (f_X1_putMasked K P l0 l5 l2 V) fun u2 V1 => f_X1_put_85 K P k12 l0 l1 l2 l3 l4 V1) else (cV K l2 2 (f_X4_add K P l2 l5 V) fun u4 V3 => f_X1_put_85 K P k12 l0 l1 l2 l3 l4 V3)
def f_X1_put_47 (K : KT) (P : PT) (k12 : Nat → Nat → Nat → Int32 → Int32 → VT → Option (Int32 × VT)) (l0 : Nat) (l1 : Nat) (l2 : Nat) (l3 : Int32) (l4 : Int32) (l5 : Int32) (s0 : Int32) (V : VT) : Option (Int32 × VT) :=
  if s0 = 0 then (gI K V l0 0 1 fun x1 => if x1 = 0 then (some ((-5 : Int32), V)) else (f_X1_put_64 K P k12 l0 l1 l2 l3 l4 l5 s0 V)) else (f_X1_put_64 K P k12 l0 l1 l2 l3 l4 l5 s0 V)
def f_X1_put_42 (K : KT) (P : PT) (k12 : Nat → Nat → Nat → Int32 → Int32 → VT → Option (Int32 × VT)) (l0 : Nat) (l1 : Nat) (l2 : Nat) (l3 : Int32) (l4 : Int32) (l5 : Int32) (V : VT) : Option (Int32 × VT) :=
  f_X1_put_47 K P k12 l0 l1 l2 l3 l4 l5 ((1 : Int32)) V
def f_X1_put_12 (K : KT) (P : PT) : Nat → Nat → Nat → Nat → Int32 → Int32 → VT → Option (Int32 × VT)
  | 0, _, _, _, _, _, _ => none
  | n + 1, l0, l1, l2, l3, l4, V => cV K l1 2 (f_X4_size K P l1 V) fun x2 V1 => if l4 < x2 then (cV K l1 2 (f_X4_at K P l1 l4 V1) fun x10 V9 => if l3 = 0 then (cV K l0 0 (f_X1_meansSomething K P l0 x10 V9) fun x12 V11 => if x12 = 0 then (f_X1_put_42 K P (f_X1_put_12 K P n) l0 l1 l2 l3 l4 x10 V11) else (f_X1_put_47 K P (f_X1_put_12 K P n) l0 l1 l2 l3 l4 x10 ((0 : Int32)) V11)) else (f_X1_put_42 K P (f_X1_put_12 K P n) l0 l1 l2 l3 l4 x10 V9)) else (cV K l0 0 (f_X1_addMark K P l0 l2 V1) fun u4 V3 => cV K l2 2 (f_X4_isOver K P l2 V3) fun x6 V5 => if x6 = 0 then (cV K l2 2 (f_X4_size K P l2 V5) fun x8 V7 => some (x8, V7)) else (some ((-7 : Int32), V5)))
def f_X1_put (K : KT) (P : PT) (l0 : Nat) (l1 : Nat) (l2 : Nat) (l3 : Int32) (V : VT) : Option (Int32 × VT) :=
  cV K l2 2 (f_X4_clear K P l2 V) fun u2 V1 => cV K l0 0 (f_X1_addMark K P l0 l2 V1) fun u4 V3 => f_X1_put_12 K P FU l0 l1 l2 l3 ((0 : Int32)) V3
set_option maxRecDepth 20000 in
theorem w_X1_put_85 {g : GT} {K : KT} {P : PT} {res : Int32 × VT} (h : OK g RX1 cX1_put 7 (some .int)) {k12 : Nat → Nat → Nat → Int32 → Int32 → VT → Option (Int32 × VT)} (hk12 : ∀ (l0 : Nat) (l1 : Nat) (l2 : Nat) (l3 : Int32) (l4 : Int32) (V : VT), k12 l0 l1 l2 l3 l4 V = some res → J g rm_X1_put (QF g (some (.int res.1)) K P res.2 0 0) 7 K P V 0 0 12 [some (.ref l0), some (.ref l1), some (.ref l2), some (.int l3), some (.int l4), none, none] []) {l0 : Nat} {l1 : Nat} {l2 : Nat} {l3 : Int32} {l4 : Int32} {V : VT} (hf : f_X1_put_85 K P k12 l0 l1 l2 l3 l4 V = some res) : J g rm_X1_put (QF g (some (.int res.1)) K P res.2 0 0) 7 K P V 0 0 85 [some (.ref l0), some (.ref l1), some (.ref l2), some (.int l3), some (.int l4), none, none] [] := by
  rw [f_X1_put_85] at hf
  refine j_iinc (q := 88) _ [_, _, _, _, _, _, _] h dX1_put_85 rfl (by decide) rfl (kc_1 _) rfl rfl ?_
  refine j_goto 12 h dX1_put_88 (by decide) ?_
  exact j_sub (lsub_s (lsub_s (lsub_s (lsub_s (lsub_s (lsub_n (lsub_n lsub_0))))))) (hk12 _ _ _ _ _ _ hf)
set_option maxRecDepth 20000 in
theorem w_X1_put_64 {g : GT} {K : KT} {P : PT} {res : Int32 × VT} (h : OK g RX1 cX1_put 7 (some .int)) {k12 : Nat → Nat → Nat → Int32 → Int32 → VT → Option (Int32 × VT)} (hk12 : ∀ (l0 : Nat) (l1 : Nat) (l2 : Nat) (l3 : Int32) (l4 : Int32) (V : VT), k12 l0 l1 l2 l3 l4 V = some res → J g rm_X1_put (QF g (some (.int res.1)) K P res.2 0 0) 7 K P V 0 0 12 [some (.ref l0), some (.ref l1), some (.ref l2), some (.int l3), some (.int l4), none, none] []) {l0 : Nat} {l1 : Nat} {l2 : Nat} {l3 : Int32} {l4 : Int32} {l5 : Int32} {l6 : Int32} {V : VT} (hf : f_X1_put_64 K P k12 l0 l1 l2 l3 l4 l5 l6 V = some res) : J g rm_X1_put (QF g (some (.int res.1)) K P res.2 0 0) 7 K P V 0 0 64 [some (.ref l0), some (.ref l1), some (.ref l2), some (.int l3), some (.int l4), some (.int l5), some (.int l6)] [] := by
  rw [f_X1_put_64] at hf
  refine j_iload (q := 66) h dX1_put_64 rfl rfl ?_
  refine j_if_eq (q := 69) 78 h dX1_put_66 (by decide) rfl hf (fun hf => ?_) (fun hf => ?_)
  · refine j_aload_n (q := 79) h dX1_put_78 rfl rfl ?_
    refine j_iload (q := 81) h dX1_put_79 rfl rfl ?_
    refine j_aload_n (q := 82) h dX1_put_81 rfl rfl ?_
    refine j_cVv (q := 85) (As := [.int _, .ref _]) h rfl hf (fun _ hx => ct_X1_putMasked _ _ _ hx) ml_X1_63 vw_X1_putMasked rf_X1_put_X1_putMasked ⟨Nat.zero_le _, Nat.zero_le _⟩ (Nat.le_of_ble_eq_true rfl) dX1_put_82 rfl (fun _ _ hf => ?_)
    exact j_sub (lsub_s (lsub_s (lsub_s (lsub_s (lsub_s (lsub_n (lsub_n lsub_0))))))) (w_X1_put_85 h hk12 hf)
  · refine j_aload_n (q := 70) h dX1_put_69 rfl rfl ?_
    refine j_iload (q := 72) h dX1_put_70 rfl rfl ?_
    refine j_cVv (q := 75) (As := [.int _]) h rfl hf (fun _ hx => ct_X4_add _ _ _ hx) ml_X1_50 vw_X4_add rf_X1_put_X4_add ⟨Nat.zero_le _, Nat.zero_le _⟩ (Nat.le_of_ble_eq_true rfl) dX1_put_72 rfl (fun _ _ hf => ?_)
    refine j_goto 85 h dX1_put_75 (by decide) ?_
    exact j_sub (lsub_s (lsub_s (lsub_s (lsub_s (lsub_s (lsub_n (lsub_n lsub_0))))))) (w_X1_put_85 h hk12 hf)
set_option maxRecDepth 20000 in
theorem w_X1_put_47 {g : GT} {K : KT} {P : PT} {res : Int32 × VT} (h : OK g RX1 cX1_put 7 (some .int)) {k12 : Nat → Nat → Nat → Int32 → Int32 → VT → Option (Int32 × VT)} (hk12 : ∀ (l0 : Nat) (l1 : Nat) (l2 : Nat) (l3 : Int32) (l4 : Int32) (V : VT), k12 l0 l1 l2 l3 l4 V = some res → J g rm_X1_put (QF g (some (.int res.1)) K P res.2 0 0) 7 K P V 0 0 12 [some (.ref l0), some (.ref l1), some (.ref l2), some (.int l3), some (.int l4), none, none] []) {l0 : Nat} {l1 : Nat} {l2 : Nat} {l3 : Int32} {l4 : Int32} {l5 : Int32} {s0 : Int32} {V : VT} (hf : f_X1_put_47 K P k12 l0 l1 l2 l3 l4 l5 s0 V = some res) : J g rm_X1_put (QF g (some (.int res.1)) K P res.2 0 0) 7 K P V 0 0 47 [some (.ref l0), some (.ref l1), some (.ref l2), some (.int l3), some (.int l4), some (.int l5), none] [.int s0] := by
  rw [f_X1_put_47] at hf
  refine j_istore (q := 49) [_, _, _, _, _, _, _] h dX1_put_47 rfl (by decide) rfl rfl ?_
  refine j_iload (q := 51) h dX1_put_49 rfl rfl ?_
  refine j_if_ne (q := 54) 64 h dX1_put_51 (by decide) rfl hf (fun hf => ?_) (fun hf => ?_)
  · exact j_sub (lsub_s (lsub_s (lsub_s (lsub_s (lsub_s (lsub_s (lsub_s lsub_0))))))) (w_X1_put_64 h hk12 hf)
  · refine j_aload_n (q := 55) h dX1_put_54 rfl rfl ?_
    refine j_gI (q := 58) h uin_X1 rfl rfl (by decide) rfl fl_X1_15 dX1_put_55 rfl hf (fun hf => ?_)
    refine j_if_ne (q := 61) 64 h dX1_put_58 (by decide) rfl hf (fun hf => ?_) (fun hf => ?_)
    · exact j_sub (lsub_s (lsub_s (lsub_s (lsub_s (lsub_s (lsub_s (lsub_s lsub_0))))))) (w_X1_put_64 h hk12 hf)
    · refine j_bipush (q := 63) (-5) h dX1_put_61 kb_m5 rfl ?_
      exact j_iret h dX1_put_63 hf
set_option maxRecDepth 20000 in
theorem w_X1_put_42 {g : GT} {K : KT} {P : PT} {res : Int32 × VT} (h : OK g RX1 cX1_put 7 (some .int)) {k12 : Nat → Nat → Nat → Int32 → Int32 → VT → Option (Int32 × VT)} (hk12 : ∀ (l0 : Nat) (l1 : Nat) (l2 : Nat) (l3 : Int32) (l4 : Int32) (V : VT), k12 l0 l1 l2 l3 l4 V = some res → J g rm_X1_put (QF g (some (.int res.1)) K P res.2 0 0) 7 K P V 0 0 12 [some (.ref l0), some (.ref l1), some (.ref l2), some (.int l3), some (.int l4), none, none] []) {l0 : Nat} {l1 : Nat} {l2 : Nat} {l3 : Int32} {l4 : Int32} {l5 : Int32} {V : VT} (hf : f_X1_put_42 K P k12 l0 l1 l2 l3 l4 l5 V = some res) : J g rm_X1_put (QF g (some (.int res.1)) K P res.2 0 0) 7 K P V 0 0 42 [some (.ref l0), some (.ref l1), some (.ref l2), some (.int l3), some (.int l4), some (.int l5), none] [] := by
  rw [f_X1_put_42] at hf
  refine j_iconst (q := 43) (1) h dX1_put_42 ki_1 rfl ?_
  refine j_goto 47 h dX1_put_43 (by decide) ?_
  exact j_sub (lsub_s (lsub_s (lsub_s (lsub_s (lsub_s (lsub_s (lsub_n lsub_0))))))) (w_X1_put_47 h hk12 hf)
set_option maxRecDepth 20000 in
theorem w_X1_put_12 {g : GT} {K : KT} {P : PT} {res : Int32 × VT} (h : OK g RX1 cX1_put 7 (some .int)) : ∀ (n : Nat) (l0 : Nat) (l1 : Nat) (l2 : Nat) (l3 : Int32) (l4 : Int32) (V : VT), f_X1_put_12 K P n l0 l1 l2 l3 l4 V = some res → J g rm_X1_put (QF g (some (.int res.1)) K P res.2 0 0) 7 K P V 0 0 12 [some (.ref l0), some (.ref l1), some (.ref l2), some (.int l3), some (.int l4), none, none] [] := by
  intro n
  induction n with
  | zero => intro l0 l1 l2 l3 l4 V hf; rw [f_X1_put_12] at hf; cases hf
  | succ n ih =>
    intro l0 l1 l2 l3 l4 V hf
    rw [f_X1_put_12] at hf
    refine j_iload (q := 14) h dX1_put_12 rfl rfl ?_
    refine j_aload_n (q := 15) h dX1_put_14 rfl rfl ?_
    refine j_cVi (q := 18) (As := []) h rfl hf (fun _ hx => ct_X4_size _ _ _ hx) ml_X1_46 vw_X4_size rf_X1_put_X4_size ⟨Nat.zero_le _, Nat.zero_le _⟩ (Nat.le_of_ble_eq_true rfl) dX1_put_15 rfl (fun _ _ hf => ?_)
    refine j_icmp_ge (q := 21) 91 h dX1_put_18 (by decide) rfl hf (fun hf => ?_) (fun hf => ?_)
    · refine j_aload_n (q := 92) h dX1_put_91 rfl rfl ?_
      refine j_aload_n (q := 93) h dX1_put_92 rfl rfl ?_
      refine j_cVv (q := 96) (As := [.ref _]) h rfl hf (fun _ hx => ct_X1_addMark _ _ _ hx) ml_X1_57 vw_X1_addMark rf_X1_put_X1_addMark ⟨Nat.zero_le _, Nat.zero_le _⟩ (Nat.le_of_ble_eq_true rfl) dX1_put_93 rfl (fun _ _ hf => ?_)
      refine j_aload_n (q := 97) h dX1_put_96 rfl rfl ?_
      refine j_cVi (q := 100) (As := []) h rfl hf (fun _ hx => ct_X4_isOver _ _ _ hx) ml_X1_67 vw_X4_isOver rf_X1_put_X4_isOver ⟨Nat.zero_le _, Nat.zero_le _⟩ (Nat.le_of_ble_eq_true rfl) dX1_put_97 rfl (fun _ _ hf => ?_)
      refine j_if_eq (q := 103) 108 h dX1_put_100 (by decide) rfl hf (fun hf => ?_) (fun hf => ?_)
      · refine j_aload_n (q := 109) h dX1_put_108 rfl rfl ?_
        refine j_cVi (q := 112) (As := []) h rfl hf (fun _ hx => ct_X4_size _ _ _ hx) ml_X1_46 vw_X4_size rf_X1_put_X4_size ⟨Nat.zero_le _, Nat.zero_le _⟩ (Nat.le_of_ble_eq_true rfl) dX1_put_109 rfl (fun _ _ hf => ?_)
        exact j_iret h dX1_put_112 hf
      · refine j_bipush (q := 105) (-7) h dX1_put_103 kb_m7 rfl ?_
        refine j_goto 112 h dX1_put_105 (by decide) ?_
        exact j_iret h dX1_put_112 hf
    · refine j_aload_n (q := 22) h dX1_put_21 rfl rfl ?_
      refine j_iload (q := 24) h dX1_put_22 rfl rfl ?_
      refine j_cVi (q := 27) (As := [.int _]) h rfl hf (fun _ hx => ct_X4_at _ _ _ hx) ml_X1_30 vw_X4_at rf_X1_put_X4_at ⟨Nat.zero_le _, Nat.zero_le _⟩ (Nat.le_of_ble_eq_true rfl) dX1_put_24 rfl (fun _ _ hf => ?_)
      refine j_istore (q := 29) [_, _, _, _, _, _, _] h dX1_put_27 rfl (by decide) rfl rfl ?_
      refine j_iload_n (q := 30) h dX1_put_29 rfl rfl ?_
      refine j_if_ne (q := 33) 42 h dX1_put_30 (by decide) rfl hf (fun hf => ?_) (fun hf => ?_)
      · exact j_sub (lsub_s (lsub_s (lsub_s (lsub_s (lsub_s (lsub_s (lsub_n lsub_0))))))) (w_X1_put_42 h ih hf)
      · refine j_aload_n (q := 34) h dX1_put_33 rfl rfl ?_
        refine j_iload (q := 36) h dX1_put_34 rfl rfl ?_
        refine j_cVi (q := 39) (As := [.int _]) h rfl hf (fun _ hx => ct_X1_meansSomething _ _ _ hx) ml_X1_60 vw_X1_meansSomething rf_X1_put_X1_meansSomething ⟨Nat.zero_le _, Nat.zero_le _⟩ (Nat.le_of_ble_eq_true rfl) dX1_put_36 rfl (fun _ _ hf => ?_)
        refine j_if_ne (q := 42) 46 h dX1_put_39 (by decide) rfl hf (fun hf => ?_) (fun hf => ?_)
        · refine j_iconst (q := 47) (0) h dX1_put_46 ki_0 rfl ?_
          exact j_sub (lsub_s (lsub_s (lsub_s (lsub_s (lsub_s (lsub_s (lsub_n lsub_0))))))) (w_X1_put_47 h ih hf)
        · exact j_sub (lsub_s (lsub_s (lsub_s (lsub_s (lsub_s (lsub_s (lsub_n lsub_0))))))) (w_X1_put_42 h ih hf)
set_option maxRecDepth 20000 in
theorem w_X1_put_0 {g : GT} {K : KT} {P : PT} {res : Int32 × VT} (h : OK g RX1 cX1_put 7 (some .int)) {l0 : Nat} {l1 : Nat} {l2 : Nat} {l3 : Int32} {V : VT} (hf : f_X1_put K P l0 l1 l2 l3 V = some res) : J g rm_X1_put (QF g (some (.int res.1)) K P res.2 0 0) 7 K P V 0 0 0 [some (.ref l0), some (.ref l1), some (.ref l2), some (.int l3), none, none, none] [] := by
  rw [f_X1_put] at hf
  refine j_aload_n (q := 1) h dX1_put_0 rfl rfl ?_
  refine j_cVv (q := 4) (As := []) h rfl hf (fun _ hx => ct_X4_clear _ _ _ hx) ml_X1_38 vw_X4_clear rf_X1_put_X4_clear ⟨Nat.zero_le _, Nat.zero_le _⟩ (Nat.le_of_ble_eq_true rfl) dX1_put_1 rfl (fun _ _ hf => ?_)
  refine j_aload_n (q := 5) h dX1_put_4 rfl rfl ?_
  refine j_aload_n (q := 6) h dX1_put_5 rfl rfl ?_
  refine j_cVv (q := 9) (As := [.ref _]) h rfl hf (fun _ hx => ct_X1_addMark _ _ _ hx) ml_X1_57 vw_X1_addMark rf_X1_put_X1_addMark ⟨Nat.zero_le _, Nat.zero_le _⟩ (Nat.le_of_ble_eq_true rfl) dX1_put_6 rfl (fun _ _ hf => ?_)
  refine j_iconst (q := 10) (0) h dX1_put_9 ki_0 rfl ?_
  refine j_istore (q := 12) [_, _, _, _, _, _, _] h dX1_put_10 rfl (by decide) rfl rfl ?_
  exact j_sub (lsub_s (lsub_s (lsub_s (lsub_s (lsub_s (lsub_n (lsub_n lsub_0))))))) (w_X1_put_12 h FU _ _ _ _ _ _ hf)
theorem ct_X1_put (l : Launch) (D : va_G) (T : TT) {K : KT} {P : PT} {l0 : Nat} {l1 : Nat} {l2 : Nat} {l3 : Int32} {V : VT} {res : Int32 × VT} (hf : f_X1_put K P l0 l1 l2 l3 V = some res) : CT l D T yX1_put cX1_put 7 (some .int) rm_X1_put K P V [.ref l0, .ref l1, .ref l2, .int l3] (some (.int res.1)) res.2 :=
  fun _ => CT_of pn_X1 (cat_a (cat_a (cat_a (cat_i cat_0)))) (Nat.le_of_ble_eq_true rfl) [some (.ref l0), some (.ref l1), some (.ref l2), some (.int l3), none, none, none] rfl (fun _ _ _ h => w_X1_put_0 h hf)
/-! QuotedLayers$Layer.endsAt(LQuotedLayers$Row;I)Z -/
def rm_X1_endsAt : Room := { frames := 1, cells := 0, slots := 0, locals := 21 }
theorem rf_X1_endsAt_X4_at : RF rm_X4_at rm_X1_endsAt 2 := ⟨⟨by decide, by decide⟩, rfl, rfl⟩
def f_X1_endsAt_34 (K : KT) (P : PT)  (V : VT) : Option (Int32 × VT) :=
  rB ((1 : Int32)) V
def f_X1_endsAt (K : KT) (P : PT) (l0 : Nat) (l1 : Nat) (l2 : Int32) (V : VT) : Option (Int32 × VT) :=
  cV K l1 2 (f_X4_at K P l1 l2 V) fun x2 V1 => gI K V1 l0 0 0 fun x3 => if x2 = x3 then (gI K V1 l0 0 1 fun x4 => if x4 = ((2 : Int32)) then (cV K l1 2 (f_X4_at K P l1 (l2 + ((1 : Int32))) V1) fun x6 V5 => gI K V5 l0 0 0 fun x7 => if x6 = x7 then (rB ((0 : Int32)) V5) else (f_X1_endsAt_34 K P V5)) else (f_X1_endsAt_34 K P V1)) else (rB ((0 : Int32)) V1)
set_option maxRecDepth 20000 in
theorem w_X1_endsAt_34 {g : GT} {K : KT} {P : PT} {res : Int32 × VT} (h : OK g RX1 cX1_endsAt 3 (some .boolean))  {V : VT} (hf : f_X1_endsAt_34 K P  V = some res) : J g rm_X1_endsAt (QF g (some (.int res.1)) K P res.2 0 0) 3 K P V 0 0 34 [none, none, none] [] := by
  rw [f_X1_endsAt_34] at hf
  refine j_iconst (q := 35) (1) h dX1_endsAt_34 ki_1 rfl ?_
  refine j_goto 39 h dX1_endsAt_35 (by decide) ?_
  exact j_zret h dX1_endsAt_39 hf
set_option maxRecDepth 20000 in
theorem w_X1_endsAt_0 {g : GT} {K : KT} {P : PT} {res : Int32 × VT} (h : OK g RX1 cX1_endsAt 3 (some .boolean)) {l0 : Nat} {l1 : Nat} {l2 : Int32} {V : VT} (hf : f_X1_endsAt K P l0 l1 l2 V = some res) : J g rm_X1_endsAt (QF g (some (.int res.1)) K P res.2 0 0) 3 K P V 0 0 0 [some (.ref l0), some (.ref l1), some (.int l2)] [] := by
  rw [f_X1_endsAt] at hf
  refine j_aload_n (q := 1) h dX1_endsAt_0 rfl rfl ?_
  refine j_iload_n (q := 2) h dX1_endsAt_1 rfl rfl ?_
  refine j_cVi (q := 5) (As := [.int _]) h rfl hf (fun _ hx => ct_X4_at _ _ _ hx) ml_X1_30 vw_X4_at rf_X1_endsAt_X4_at ⟨Nat.zero_le _, Nat.zero_le _⟩ (Nat.le_of_ble_eq_true rfl) dX1_endsAt_2 rfl (fun _ _ hf => ?_)
  refine j_aload_n (q := 6) h dX1_endsAt_5 rfl rfl ?_
  refine j_gI (q := 9) h uin_X1 rfl rfl (by decide) rfl fl_X1_9 dX1_endsAt_6 rfl hf (fun hf => ?_)
  refine j_icmp_ne (q := 12) 38 h dX1_endsAt_9 (by decide) rfl hf (fun hf => ?_) (fun hf => ?_)
  · refine j_iconst (q := 39) (0) h dX1_endsAt_38 ki_0 rfl ?_
    exact j_zret h dX1_endsAt_39 hf
  · refine j_aload_n (q := 13) h dX1_endsAt_12 rfl rfl ?_
    refine j_gI (q := 16) h uin_X1 rfl rfl (by decide) rfl fl_X1_15 dX1_endsAt_13 rfl hf (fun hf => ?_)
    refine j_iconst (q := 17) (2) h dX1_endsAt_16 ki_2 rfl ?_
    refine j_icmp_ne (q := 20) 34 h dX1_endsAt_17 (by decide) rfl hf (fun hf => ?_) (fun hf => ?_)
    · exact j_sub (lsub_n (lsub_n (lsub_n lsub_0))) (w_X1_endsAt_34 h hf)
    · refine j_aload_n (q := 21) h dX1_endsAt_20 rfl rfl ?_
      refine j_iload_n (q := 22) h dX1_endsAt_21 rfl rfl ?_
      refine j_iconst (q := 23) (1) h dX1_endsAt_22 ki_1 rfl ?_
      refine j_iadd (q := 24) h dX1_endsAt_23 rfl ?_
      refine j_cVi (q := 27) (As := [.int _]) h rfl hf (fun _ hx => ct_X4_at _ _ _ hx) ml_X1_30 vw_X4_at rf_X1_endsAt_X4_at ⟨Nat.zero_le _, Nat.zero_le _⟩ (Nat.le_of_ble_eq_true rfl) dX1_endsAt_24 rfl (fun _ _ hf => ?_)
      refine j_aload_n (q := 28) h dX1_endsAt_27 rfl rfl ?_
      refine j_gI (q := 31) h uin_X1 rfl rfl (by decide) rfl fl_X1_9 dX1_endsAt_28 rfl hf (fun hf => ?_)
      refine j_icmp_eq (q := 34) 38 h dX1_endsAt_31 (by decide) rfl hf (fun hf => ?_) (fun hf => ?_)
      · refine j_iconst (q := 39) (0) h dX1_endsAt_38 ki_0 rfl ?_
        exact j_zret h dX1_endsAt_39 hf
      · exact j_sub (lsub_n (lsub_n (lsub_n lsub_0))) (w_X1_endsAt_34 h hf)
theorem ct_X1_endsAt (l : Launch) (D : va_G) (T : TT) {K : KT} {P : PT} {l0 : Nat} {l1 : Nat} {l2 : Int32} {V : VT} {res : Int32 × VT} (hf : f_X1_endsAt K P l0 l1 l2 V = some res) : CT l D T yX1_endsAt cX1_endsAt 3 (some .boolean) rm_X1_endsAt K P V [.ref l0, .ref l1, .int l2] (some (.int res.1)) res.2 :=
  fun _ => CT_of pn_X1 (cat_a (cat_a (cat_i cat_0))) (Nat.le_of_ble_eq_true rfl) [some (.ref l0), some (.ref l1), some (.int l2)] rfl (fun _ _ _ h => w_X1_endsAt_0 h hf)
/-! QuotedLayers$Layer.valueOfDigit(I)I -/
def rm_X1_valueOfDigit : Room := { frames := 0, cells := 0, slots := 0, locals := 0 }
def f_X1_valueOfDigit_17 (K : KT) (P : PT) (l0 : Int32) (V : VT) : Option (Int32 × VT) :=
  if l0 < ((97 : Int32)) then (some ((-1 : Int32), V)) else (if ((102 : Int32)) < l0 then (some ((-1 : Int32), V)) else (some ((l0 - ((97 : Int32))) + ((10 : Int32)), V)))
def f_X1_valueOfDigit (K : KT) (P : PT) (l0 : Int32) (V : VT) : Option (Int32 × VT) :=
  if l0 < ((48 : Int32)) then (f_X1_valueOfDigit_17 K P l0 V) else (if ((57 : Int32)) < l0 then (f_X1_valueOfDigit_17 K P l0 V) else (some (l0 - ((48 : Int32)), V)))
set_option maxRecDepth 20000 in
theorem w_X1_valueOfDigit_17 {g : GT} {K : KT} {P : PT} {res : Int32 × VT} (h : OK g RX1 cX1_valueOfDigit 1 (some .int)) {l0 : Int32} {V : VT} (hf : f_X1_valueOfDigit_17 K P l0 V = some res) : J g rm_X1_valueOfDigit (QF g (some (.int res.1)) K P res.2 0 0) 1 K P V 0 0 17 [some (.int l0)] [] := by
  rw [f_X1_valueOfDigit_17] at hf
  refine j_iload_n (q := 18) h dX1_valueOfDigit_17 rfl rfl ?_
  refine j_bipush (q := 20) (97) h dX1_valueOfDigit_18 kb_97 rfl ?_
  refine j_icmp_lt (q := 23) 39 h dX1_valueOfDigit_20 (by decide) rfl hf (fun hf => ?_) (fun hf => ?_)
  · refine j_iconst (q := 40) (-1) h dX1_valueOfDigit_39 ki_m1 rfl ?_
    exact j_iret h dX1_valueOfDigit_40 hf
  · refine j_iload_n (q := 24) h dX1_valueOfDigit_23 rfl rfl ?_
    refine j_bipush (q := 26) (102) h dX1_valueOfDigit_24 kb_102 rfl ?_
    refine j_icmp_gt (q := 29) 39 h dX1_valueOfDigit_26 (by decide) rfl hf (fun hf => ?_) (fun hf => ?_)
    · refine j_iconst (q := 40) (-1) h dX1_valueOfDigit_39 ki_m1 rfl ?_
      exact j_iret h dX1_valueOfDigit_40 hf
    · refine j_iload_n (q := 30) h dX1_valueOfDigit_29 rfl rfl ?_
      refine j_bipush (q := 32) (97) h dX1_valueOfDigit_30 kb_97 rfl ?_
      refine j_isub (q := 33) h dX1_valueOfDigit_32 rfl ?_
      refine j_bipush (q := 35) (10) h dX1_valueOfDigit_33 kb_10 rfl ?_
      refine j_iadd (q := 36) h dX1_valueOfDigit_35 rfl ?_
      refine j_goto 40 h dX1_valueOfDigit_36 (by decide) ?_
      exact j_iret h dX1_valueOfDigit_40 hf
set_option maxRecDepth 20000 in
theorem w_X1_valueOfDigit_0 {g : GT} {K : KT} {P : PT} {res : Int32 × VT} (h : OK g RX1 cX1_valueOfDigit 1 (some .int)) {l0 : Int32} {V : VT} (hf : f_X1_valueOfDigit K P l0 V = some res) : J g rm_X1_valueOfDigit (QF g (some (.int res.1)) K P res.2 0 0) 1 K P V 0 0 0 [some (.int l0)] [] := by
  rw [f_X1_valueOfDigit] at hf
  refine j_iload_n (q := 1) h dX1_valueOfDigit_0 rfl rfl ?_
  refine j_bipush (q := 3) (48) h dX1_valueOfDigit_1 kb_48 rfl ?_
  refine j_icmp_lt (q := 6) 17 h dX1_valueOfDigit_3 (by decide) rfl hf (fun hf => ?_) (fun hf => ?_)
  · exact j_sub (lsub_s lsub_0) (w_X1_valueOfDigit_17 h hf)
  · refine j_iload_n (q := 7) h dX1_valueOfDigit_6 rfl rfl ?_
    refine j_bipush (q := 9) (57) h dX1_valueOfDigit_7 kb_57 rfl ?_
    refine j_icmp_gt (q := 12) 17 h dX1_valueOfDigit_9 (by decide) rfl hf (fun hf => ?_) (fun hf => ?_)
    · exact j_sub (lsub_s lsub_0) (w_X1_valueOfDigit_17 h hf)
    · refine j_iload_n (q := 13) h dX1_valueOfDigit_12 rfl rfl ?_
      refine j_bipush (q := 15) (48) h dX1_valueOfDigit_13 kb_48 rfl ?_
      refine j_isub (q := 16) h dX1_valueOfDigit_15 rfl ?_
      exact j_iret h dX1_valueOfDigit_16 hf
theorem ct_X1_valueOfDigit (l : Launch) (D : va_G) (T : TT) {K : KT} {P : PT} {l0 : Int32} {V : VT} {res : Int32 × VT} (hf : f_X1_valueOfDigit K P l0 V = some res) : CT l D T yX1_valueOfDigit cX1_valueOfDigit 1 (some .int) rm_X1_valueOfDigit K P V [.int l0] (some (.int res.1)) res.2 :=
  fun _ => CT_of pn_X1 (cat_i cat_0) (Nat.le_of_ble_eq_true rfl) [some (.int l0)] rfl (fun _ _ _ h => w_X1_valueOfDigit_0 h hf)
/-! QuotedLayers.isSign(I)Z -/
def rm_X6_isSign : Room := { frames := 0, cells := 0, slots := 0, locals := 0 }
def f_X6_isSign (K : KT) (P : PT) (l0 : Int32) (V : VT) : Option (Int32 × VT) :=
  if l0 < ((33 : Int32)) then (rB ((0 : Int32)) V) else (if ((126 : Int32)) < l0 then (rB ((0 : Int32)) V) else (rB ((1 : Int32)) V))
set_option maxRecDepth 20000 in
theorem w_X6_isSign_0 {g : GT} {K : KT} {P : PT} {res : Int32 × VT} (h : OK g RX6 cX6_isSign 1 (some .boolean)) {l0 : Int32} {V : VT} (hf : f_X6_isSign K P l0 V = some res) : J g rm_X6_isSign (QF g (some (.int res.1)) K P res.2 0 0) 1 K P V 0 0 0 [some (.int l0)] [] := by
  rw [f_X6_isSign] at hf
  refine j_iload_n (q := 1) h dX6_isSign_0 rfl rfl ?_
  refine j_bipush (q := 3) (33) h dX6_isSign_1 kb_33 rfl ?_
  refine j_icmp_lt (q := 6) 16 h dX6_isSign_3 (by decide) rfl hf (fun hf => ?_) (fun hf => ?_)
  · refine j_iconst (q := 17) (0) h dX6_isSign_16 ki_0 rfl ?_
    exact j_zret h dX6_isSign_17 hf
  · refine j_iload_n (q := 7) h dX6_isSign_6 rfl rfl ?_
    refine j_bipush (q := 9) (126) h dX6_isSign_7 kb_126 rfl ?_
    refine j_icmp_gt (q := 12) 16 h dX6_isSign_9 (by decide) rfl hf (fun hf => ?_) (fun hf => ?_)
    · refine j_iconst (q := 17) (0) h dX6_isSign_16 ki_0 rfl ?_
      exact j_zret h dX6_isSign_17 hf
    · refine j_iconst (q := 13) (1) h dX6_isSign_12 ki_1 rfl ?_
      refine j_goto 17 h dX6_isSign_13 (by decide) ?_
      exact j_zret h dX6_isSign_17 hf
theorem ct_X6_isSign (l : Launch) (D : va_G) (T : TT) {K : KT} {P : PT} {l0 : Int32} {V : VT} {res : Int32 × VT} (hf : f_X6_isSign K P l0 V = some res) : CT l D T yX6_isSign cX6_isSign 1 (some .boolean) rm_X6_isSign K P V [.int l0] (some (.int res.1)) res.2 :=
  fun _ => CT_of pn_X6 (cat_i cat_0) (Nat.le_of_ble_eq_true rfl) [some (.int l0)] rfl (fun _ _ _ h => w_X6_isSign_0 h hf)
/-! QuotedLayers$Layer.meantAt(LQuotedLayers$Row;I)I -/
def rm_X1_meantAt : Room := { frames := 1, cells := 0, slots := 0, locals := 23 }
theorem rf_X1_meantAt_X1_valueOfDigit : RF rm_X1_valueOfDigit rm_X1_meantAt 1 := ⟨⟨by decide, by decide⟩, rfl, rfl⟩
theorem rf_X1_meantAt_X4_at : RF rm_X4_at rm_X1_meantAt 2 := ⟨⟨by decide, by decide⟩, rfl, rfl⟩
theorem rf_X1_meantAt_X4_hasAhead : RF rm_X4_hasAhead rm_X1_meantAt 4 := ⟨⟨by decide, by decide⟩, rfl, rfl⟩
theorem rf_X1_meantAt_X6_isSign : RF rm_X6_isSign rm_X1_meantAt 1 := ⟨⟨by decide, by decide⟩, rfl, rfl⟩
def f_X1_meantAt_97 (K : KT) (P : PT) (s0 : Int32) (V : VT) : Option (Int32 × VT) :=
  cS (f_X6_isSign K P s0 V) fun x2 V1 => if x2 = 0 then (some ((-6 : Int32), V1)) else (some (s0, V1))
def f_X1_meantAt_84 (K : KT) (P : PT)  (V : VT) : Option (Int32 × VT) :=
  f_X1_meantAt_97 K P ((-6 : Int32)) V
def f_X1_meantAt (K : KT) (P : PT) (l0 : Nat) (l1 : Nat) (l2 : Int32) (V : VT) : Option (Int32 × VT) :=
  cV K l1 2 (f_X4_at K P l1 l2 V) fun x2 V1 => gI K V1 l0 0 2 fun x3 => if x2 = x3 then (gI K V1 l0 0 1 fun x4 => if x4 = ((1 : Int32)) then (cV K l1 2 (f_X4_at K P l1 (l2 + ((1 : Int32))) V1) fun x14 V13 => some (x14, V13)) else (cV K l1 2 (f_X4_at K P l1 (l2 + ((1 : Int32))) V1) fun x6 V5 => cS (f_X1_valueOfDigit K P x6 V5) fun x8 V7 => cV K l1 2 (f_X4_at K P l1 (l2 + ((2 : Int32))) V7) fun x10 V9 => cS (f_X1_valueOfDigit K P x10 V9) fun x12 V11 => if x8 < 0 then (f_X1_meantAt_84 K P V11) else (if x12 < 0 then (f_X1_meantAt_84 K P V11) else (f_X1_meantAt_97 K P ((x8 * ((16 : Int32))) + x12) V11)))) else (gR K P l0 0 3 fun b15 => cV K b15 2 (f_X4_hasAhead K P b15 x2 ((6 : Int32)) V1) fun x17 V16 => if x17 = 0 then (some (x2, V16)) else (some ((-6 : Int32), V16)))
set_option maxRecDepth 20000 in
theorem w_X1_meantAt_97 {g : GT} {K : KT} {P : PT} {res : Int32 × VT} (h : OK g RX1 cX1_meantAt 7 (some .int)) {s0 : Int32} {V : VT} (hf : f_X1_meantAt_97 K P s0 V = some res) : J g rm_X1_meantAt (QF g (some (.int res.1)) K P res.2 0 0) 7 K P V 0 0 97 [none, none, none, none, none, none, none] [.int s0] := by
  rw [f_X1_meantAt_97] at hf
  refine j_istore (q := 99) [_, _, _, _, _, _, _] h dX1_meantAt_97 rfl (by decide) rfl rfl ?_
  refine j_iload (q := 101) h dX1_meantAt_99 rfl rfl ?_
  refine j_cNi (q := 104) (As := [.int _]) h rfl hf (fun _ hx => ct_X6_isSign _ _ _ hx) (fun _ h => h.2.1) sw_X6_isSign rf_X1_meantAt_X6_isSign ⟨Nat.zero_le _, Nat.zero_le _⟩ (Nat.le_of_ble_eq_true rfl) dX1_meantAt_101 rfl (fun _ _ hf => ?_)
  refine j_if_eq (q := 107) 112 h dX1_meantAt_104 (by decide) rfl hf (fun hf => ?_) (fun hf => ?_)
  · refine j_bipush (q := 114) (-6) h dX1_meantAt_112 kb_m6 rfl ?_
    exact j_iret h dX1_meantAt_114 hf
  · refine j_iload (q := 109) h dX1_meantAt_107 rfl rfl ?_
    refine j_goto 114 h dX1_meantAt_109 (by decide) ?_
    exact j_iret h dX1_meantAt_114 hf
set_option maxRecDepth 20000 in
theorem w_X1_meantAt_84 {g : GT} {K : KT} {P : PT} {res : Int32 × VT} (h : OK g RX1 cX1_meantAt 7 (some .int))  {V : VT} (hf : f_X1_meantAt_84 K P  V = some res) : J g rm_X1_meantAt (QF g (some (.int res.1)) K P res.2 0 0) 7 K P V 0 0 84 [none, none, none, none, none, none, none] [] := by
  rw [f_X1_meantAt_84] at hf
  refine j_bipush (q := 86) (-6) h dX1_meantAt_84 kb_m6 rfl ?_
  refine j_goto 97 h dX1_meantAt_86 (by decide) ?_
  exact j_sub (lsub_n (lsub_n (lsub_n (lsub_n (lsub_n (lsub_n (lsub_n lsub_0))))))) (w_X1_meantAt_97 h hf)
set_option maxRecDepth 20000 in
theorem w_X1_meantAt_0 {g : GT} {K : KT} {P : PT} {res : Int32 × VT} (h : OK g RX1 cX1_meantAt 7 (some .int)) {l0 : Nat} {l1 : Nat} {l2 : Int32} {V : VT} (hf : f_X1_meantAt K P l0 l1 l2 V = some res) : J g rm_X1_meantAt (QF g (some (.int res.1)) K P res.2 0 0) 7 K P V 0 0 0 [some (.ref l0), some (.ref l1), some (.int l2), none, none, none, none] [] := by
  rw [f_X1_meantAt] at hf
  refine j_aload_n (q := 1) h dX1_meantAt_0 rfl rfl ?_
  refine j_iload_n (q := 2) h dX1_meantAt_1 rfl rfl ?_
  refine j_cVi (q := 5) (As := [.int _]) h rfl hf (fun _ hx => ct_X4_at _ _ _ hx) ml_X1_30 vw_X4_at rf_X1_meantAt_X4_at ⟨Nat.zero_le _, Nat.zero_le _⟩ (Nat.le_of_ble_eq_true rfl) dX1_meantAt_2 rfl (fun _ _ hf => ?_)
  refine j_istore_n (q := 6) [_, _, _, _, _, _, _] h dX1_meantAt_5 rfl (by decide) rfl rfl ?_
  refine j_iload_n (q := 7) h dX1_meantAt_6 rfl rfl ?_
  refine j_aload_n (q := 8) h dX1_meantAt_7 rfl rfl ?_
  refine j_gI (q := 11) h uin_X1 rfl rfl (by decide) rfl fl_X1_18 dX1_meantAt_8 rfl hf (fun hf => ?_)
  refine j_icmp_eq (q := 14) 34 h dX1_meantAt_11 (by decide) rfl hf (fun hf => ?_) (fun hf => ?_)
  · refine j_aload_n (q := 35) h dX1_meantAt_34 rfl rfl ?_
    refine j_gI (q := 38) h uin_X1 rfl rfl (by decide) rfl fl_X1_15 dX1_meantAt_35 rfl hf (fun hf => ?_)
    refine j_iconst (q := 39) (1) h dX1_meantAt_38 ki_1 rfl ?_
    refine j_icmp_ne (q := 42) 50 h dX1_meantAt_39 (by decide) rfl hf (fun hf => ?_) (fun hf => ?_)
    · refine j_aload_n (q := 51) h dX1_meantAt_50 rfl rfl ?_
      refine j_iload_n (q := 52) h dX1_meantAt_51 rfl rfl ?_
      refine j_iconst (q := 53) (1) h dX1_meantAt_52 ki_1 rfl ?_
      refine j_iadd (q := 54) h dX1_meantAt_53 rfl ?_
      refine j_cVi (q := 57) (As := [.int _]) h rfl hf (fun _ hx => ct_X4_at _ _ _ hx) ml_X1_30 vw_X4_at rf_X1_meantAt_X4_at ⟨Nat.zero_le _, Nat.zero_le _⟩ (Nat.le_of_ble_eq_true rfl) dX1_meantAt_54 rfl (fun _ _ hf => ?_)
      refine j_cSi (q := 60) (As := [.int _]) h rfl hf (fun _ hx => ct_X1_valueOfDigit _ _ _ hx) ml_X1_89 sw_X1_valueOfDigit rf_X1_meantAt_X1_valueOfDigit ⟨Nat.zero_le _, Nat.zero_le _⟩ (Nat.le_of_ble_eq_true rfl) dX1_meantAt_57 rfl (fun _ _ hf => ?_)
      refine j_istore (q := 62) [_, _, _, _, _, _, _] h dX1_meantAt_60 rfl (by decide) rfl rfl ?_
      refine j_aload_n (q := 63) h dX1_meantAt_62 rfl rfl ?_
      refine j_iload_n (q := 64) h dX1_meantAt_63 rfl rfl ?_
      refine j_iconst (q := 65) (2) h dX1_meantAt_64 ki_2 rfl ?_
      refine j_iadd (q := 66) h dX1_meantAt_65 rfl ?_
      refine j_cVi (q := 69) (As := [.int _]) h rfl hf (fun _ hx => ct_X4_at _ _ _ hx) ml_X1_30 vw_X4_at rf_X1_meantAt_X4_at ⟨Nat.zero_le _, Nat.zero_le _⟩ (Nat.le_of_ble_eq_true rfl) dX1_meantAt_66 rfl (fun _ _ hf => ?_)
      refine j_cSi (q := 72) (As := [.int _]) h rfl hf (fun _ hx => ct_X1_valueOfDigit _ _ _ hx) ml_X1_89 sw_X1_valueOfDigit rf_X1_meantAt_X1_valueOfDigit ⟨Nat.zero_le _, Nat.zero_le _⟩ (Nat.le_of_ble_eq_true rfl) dX1_meantAt_69 rfl (fun _ _ hf => ?_)
      refine j_istore (q := 74) [_, _, _, _, _, _, _] h dX1_meantAt_72 rfl (by decide) rfl rfl ?_
      refine j_iload (q := 76) h dX1_meantAt_74 rfl rfl ?_
      refine j_if_lt (q := 79) 84 h dX1_meantAt_76 (by decide) rfl hf (fun hf => ?_) (fun hf => ?_)
      · exact j_sub (lsub_n (lsub_n (lsub_n (lsub_n (lsub_n (lsub_n (lsub_n lsub_0))))))) (w_X1_meantAt_84 h hf)
      · refine j_iload (q := 81) h dX1_meantAt_79 rfl rfl ?_
        refine j_if_ge (q := 84) 89 h dX1_meantAt_81 (by decide) rfl hf (fun hf => ?_) (fun hf => ?_)
        · refine j_iload (q := 91) h dX1_meantAt_89 rfl rfl ?_
          refine j_bipush (q := 93) (16) h dX1_meantAt_91 kb_16 rfl ?_
          refine j_imul (q := 94) h dX1_meantAt_93 rfl ?_
          refine j_iload (q := 96) h dX1_meantAt_94 rfl rfl ?_
          refine j_iadd (q := 97) h dX1_meantAt_96 rfl ?_
          exact j_sub (lsub_n (lsub_n (lsub_n (lsub_n (lsub_n (lsub_n (lsub_n lsub_0))))))) (w_X1_meantAt_97 h hf)
        · exact j_sub (lsub_n (lsub_n (lsub_n (lsub_n (lsub_n (lsub_n (lsub_n lsub_0))))))) (w_X1_meantAt_84 h hf)
    · refine j_aload_n (q := 43) h dX1_meantAt_42 rfl rfl ?_
      refine j_iload_n (q := 44) h dX1_meantAt_43 rfl rfl ?_
      refine j_iconst (q := 45) (1) h dX1_meantAt_44 ki_1 rfl ?_
      refine j_iadd (q := 46) h dX1_meantAt_45 rfl ?_
      refine j_cVi (q := 49) (As := [.int _]) h rfl hf (fun _ hx => ct_X4_at _ _ _ hx) ml_X1_30 vw_X4_at rf_X1_meantAt_X4_at ⟨Nat.zero_le _, Nat.zero_le _⟩ (Nat.le_of_ble_eq_true rfl) dX1_meantAt_46 rfl (fun _ _ hf => ?_)
      exact j_iret h dX1_meantAt_49 hf
  · refine j_aload_n (q := 15) h dX1_meantAt_14 rfl rfl ?_
    refine j_gR (q := 18) h uin_X1 rfl rfl (by decide) rfl fl_X1_26 dX1_meantAt_15 rfl hf (fun b15 hf => ?_)
    refine j_iload_n (q := 19) h dX1_meantAt_18 rfl rfl ?_
    refine j_bipush (q := 21) (6) h dX1_meantAt_19 kb_6 rfl ?_
    refine j_cVi (q := 24) (As := [.int _, .int _]) h rfl hf (fun _ hx => ct_X4_hasAhead _ _ _ hx) ml_X1_71 vw_X4_hasAhead rf_X1_meantAt_X4_hasAhead ⟨Nat.zero_le _, Nat.zero_le _⟩ (Nat.le_of_ble_eq_true rfl) dX1_meantAt_21 rfl (fun _ _ hf => ?_)
    refine j_if_eq (q := 27) 32 h dX1_meantAt_24 (by decide) rfl hf (fun hf => ?_) (fun hf => ?_)
    · refine j_iload_n (q := 33) h dX1_meantAt_32 rfl rfl ?_
      exact j_iret h dX1_meantAt_33 hf
    · refine j_bipush (q := 29) (-6) h dX1_meantAt_27 kb_m6 rfl ?_
      refine j_goto 33 h dX1_meantAt_29 (by decide) ?_
      exact j_iret h dX1_meantAt_33 hf
theorem ct_X1_meantAt (l : Launch) (D : va_G) (T : TT) {K : KT} {P : PT} {l0 : Nat} {l1 : Nat} {l2 : Int32} {V : VT} {res : Int32 × VT} (hf : f_X1_meantAt K P l0 l1 l2 V = some res) : CT l D T yX1_meantAt cX1_meantAt 7 (some .int) rm_X1_meantAt K P V [.ref l0, .ref l1, .int l2] (some (.int res.1)) res.2 :=
  fun _ => CT_of pn_X1 (cat_a (cat_a (cat_i cat_0))) (Nat.le_of_ble_eq_true rfl) [some (.ref l0), some (.ref l1), some (.int l2), none, none, none, none] rfl (fun _ _ _ h => w_X1_meantAt_0 h hf)
/-! QuotedLayers$Layer.widthOf(I)I -/
def rm_X1_widthOf : Room := { frames := 0, cells := 0, slots := 0, locals := 0 }
def f_X1_widthOf (K : KT) (P : PT) (l0 : Nat) (l1 : Int32) (V : VT) : Option (Int32 × VT) :=
  gI K V l0 0 2 fun x1 => if l1 = x1 then (gI K V l0 0 1 fun x3 => if x3 = ((1 : Int32)) then (some ((2 : Int32), V)) else (some ((3 : Int32), V))) else (gI K V l0 0 0 fun x2 => if l1 = x2 then (some ((2 : Int32), V)) else (some ((1 : Int32), V)))
set_option maxRecDepth 20000 in
theorem w_X1_widthOf_0 {g : GT} {K : KT} {P : PT} {res : Int32 × VT} (h : OK g RX1 cX1_widthOf 2 (some .int)) {l0 : Nat} {l1 : Int32} {V : VT} (hf : f_X1_widthOf K P l0 l1 V = some res) : J g rm_X1_widthOf (QF g (some (.int res.1)) K P res.2 0 0) 2 K P V 0 0 0 [some (.ref l0), some (.int l1)] [] := by
  rw [f_X1_widthOf] at hf
  refine j_iload_n (q := 1) h dX1_widthOf_0 rfl rfl ?_
  refine j_aload_n (q := 2) h dX1_widthOf_1 rfl rfl ?_
  refine j_gI (q := 5) h uin_X1 rfl rfl (by decide) rfl fl_X1_18 dX1_widthOf_2 rfl hf (fun hf => ?_)
  refine j_icmp_ne (q := 8) 22 h dX1_widthOf_5 (by decide) rfl hf (fun hf => ?_) (fun hf => ?_)
  · refine j_iload_n (q := 23) h dX1_widthOf_22 rfl rfl ?_
    refine j_aload_n (q := 24) h dX1_widthOf_23 rfl rfl ?_
    refine j_gI (q := 27) h uin_X1 rfl rfl (by decide) rfl fl_X1_9 dX1_widthOf_24 rfl hf (fun hf => ?_)
    refine j_icmp_ne (q := 30) 34 h dX1_widthOf_27 (by decide) rfl hf (fun hf => ?_) (fun hf => ?_)
    · refine j_iconst (q := 35) (1) h dX1_widthOf_34 ki_1 rfl ?_
      exact j_iret h dX1_widthOf_35 hf
    · refine j_iconst (q := 31) (2) h dX1_widthOf_30 ki_2 rfl ?_
      refine j_goto 35 h dX1_widthOf_31 (by decide) ?_
      exact j_iret h dX1_widthOf_35 hf
  · refine j_aload_n (q := 9) h dX1_widthOf_8 rfl rfl ?_
    refine j_gI (q := 12) h uin_X1 rfl rfl (by decide) rfl fl_X1_15 dX1_widthOf_9 rfl hf (fun hf => ?_)
    refine j_iconst (q := 13) (1) h dX1_widthOf_12 ki_1 rfl ?_
    refine j_icmp_ne (q := 16) 20 h dX1_widthOf_13 (by decide) rfl hf (fun hf => ?_) (fun hf => ?_)
    · refine j_iconst (q := 21) (3) h dX1_widthOf_20 ki_3 rfl ?_
      exact j_iret h dX1_widthOf_21 hf
    · refine j_iconst (q := 17) (2) h dX1_widthOf_16 ki_2 rfl ?_
      refine j_goto 21 h dX1_widthOf_17 (by decide) ?_
      exact j_iret h dX1_widthOf_21 hf
theorem ct_X1_widthOf (l : Launch) (D : va_G) (T : TT) {K : KT} {P : PT} {l0 : Nat} {l1 : Int32} {V : VT} {res : Int32 × VT} (hf : f_X1_widthOf K P l0 l1 V = some res) : CT l D T yX1_widthOf cX1_widthOf 2 (some .int) rm_X1_widthOf K P V [.ref l0, .int l1] (some (.int res.1)) res.2 :=
  fun _ => CT_of pn_X1 (cat_a (cat_i cat_0)) (Nat.le_of_ble_eq_true rfl) [some (.ref l0), some (.int l1)] rfl (fun _ _ _ h => w_X1_widthOf_0 h hf)
/-! QuotedLayers$Layer.takeOff(LQuotedLayers$Row;LQuotedLayers$Row;)I -/
def rm_X1_takeOff : Room := { frames := 2, cells := 0, slots := 0, locals := 49 }
theorem rf_X1_takeOff_X1_endsAt : RF rm_X1_endsAt rm_X1_takeOff 3 := ⟨⟨by decide, by decide⟩, rfl, rfl⟩
theorem rf_X1_takeOff_X1_meantAt : RF rm_X1_meantAt rm_X1_takeOff 7 := ⟨⟨by decide, by decide⟩, rfl, rfl⟩
theorem rf_X1_takeOff_X1_widthOf : RF rm_X1_widthOf rm_X1_takeOff 2 := ⟨⟨by decide, by decide⟩, rfl, rfl⟩
theorem rf_X1_takeOff_X4_add : RF rm_X4_add rm_X1_takeOff 2 := ⟨⟨by decide, by decide⟩, rfl, rfl⟩
theorem rf_X1_takeOff_X4_at : RF rm_X4_at rm_X1_takeOff 2 := ⟨⟨by decide, by decide⟩, rfl, rfl⟩
theorem rf_X1_takeOff_X4_clear : RF rm_X4_clear rm_X1_takeOff 1 := ⟨⟨by decide, by decide⟩, rfl, rfl⟩
theorem rf_X1_takeOff_X4_size : RF rm_X4_size rm_X1_takeOff 1 := ⟨⟨by decide, by decide⟩, rfl, rfl⟩
def f_X1_takeOff_130 (K : KT) (P : PT) (l0 : Nat) (l1 : Nat) (V : VT) : Option (Int32 × VT) :=
  gI K V l0 0 0 fun x1 => if x1 = ((-6 : Int32)) then (some ((-6 : Int32), V)) else (cV K l1 2 (f_X4_size K P l1 V) fun x3 V2 => some (x3, V2))
def f_X1_takeOff_45 (K : KT) (P : PT) : Nat → Nat → Nat → Nat → Int32 → Int32 → VT → Option (Int32 × VT)
  | 0, _, _, _, _, _, _ => none
  | n + 1, l0, l1, l2, l3, l4, V => cV K l1 2 (f_X4_size K P l1 V) fun x2 V1 => if l3 < x2 then (if l4 < ((400 : Int32)) then (cV K l0 0 (f_X1_endsAt K P l0 l1 l3 V1) fun x4 V3 => if x4 = 0 then (cV K l0 0 (f_X1_meantAt K P l0 l1 l3 V3) fun x6 V5 => if x6 = ((-6 : Int32)) then (some (l3, V5)) else (cV K l2 2 (f_X4_add K P l2 x6 V5) fun u8 V7 => cV K l1 2 (f_X4_at K P l1 l3 V7) fun x10 V9 => cV K l0 0 (f_X1_widthOf K P l0 x10 V9) fun x12 V11 => (f_X1_takeOff_45 K P n) l0 l1 l2 (l3 + x12) (l4 + (1 : Int32)) V11)) else (cV K l1 2 (f_X4_size K P l1 V3) fun x14 V13 => if (l3 + ((1 : Int32))) < x14 then (some (l3 + ((1 : Int32)), V13)) else (some ((-6 : Int32), V13)))) else (f_X1_takeOff_130 K P l0 l1 V1)) else (f_X1_takeOff_130 K P l0 l1 V1)
def f_X1_takeOff_41 (K : KT) (P : PT) (l0 : Nat) (l1 : Nat) (l2 : Nat) (s0 : Int32) (V : VT) : Option (Int32 × VT) :=
  f_X1_takeOff_45 K P FU l0 l1 l2 s0 ((0 : Int32)) V
def f_X1_takeOff_27 (K : KT) (P : PT) (l0 : Nat) (l1 : Nat) (l2 : Nat) (V : VT) : Option (Int32 × VT) :=
  gI K V l0 0 0 fun x1 => if x1 = ((-6 : Int32)) then (f_X1_takeOff_41 K P l0 l1 l2 ((0 : Int32)) V) else (f_X1_takeOff_41 K P l0 l1 l2 ((1 : Int32)) V)
def f_X1_takeOff (K : KT) (P : PT) (l0 : Nat) (l1 : Nat) (l2 : Nat) (V : VT) : Option (Int32 × VT) :=
  cV K l2 2 (f_X4_clear K P l2 V) fun u2 V1 => gI K V1 l0 0 0 fun x3 => if x3 = ((-6 : Int32)) then (f_X1_takeOff_27 K P l0 l1 l2 V1) else (cV K l1 2 (f_X4_at K P l1 ((0 : Int32)) V1) fun x5 V4 => gI K V4 l0 0 0 fun x6 => if x5 = x6 then (f_X1_takeOff_27 K P l0 l1 l2 V4) else (some ((0 : Int32), V4)))
set_option maxRecDepth 20000 in
theorem w_X1_takeOff_130 {g : GT} {K : KT} {P : PT} {res : Int32 × VT} (h : OK g RX1 cX1_takeOff 6 (some .int)) {l0 : Nat} {l1 : Nat} {V : VT} (hf : f_X1_takeOff_130 K P l0 l1 V = some res) : J g rm_X1_takeOff (QF g (some (.int res.1)) K P res.2 0 0) 6 K P V 0 0 130 [some (.ref l0), some (.ref l1), none, none, none, none] [] := by
  rw [f_X1_takeOff_130] at hf
  refine j_aload_n (q := 131) h dX1_takeOff_130 rfl rfl ?_
  refine j_gI (q := 134) h uin_X1 rfl rfl (by decide) rfl fl_X1_9 dX1_takeOff_131 rfl hf (fun hf => ?_)
  refine j_bipush (q := 136) (-6) h dX1_takeOff_134 kb_m6 rfl ?_
  refine j_icmp_ne (q := 139) 144 h dX1_takeOff_136 (by decide) rfl hf (fun hf => ?_) (fun hf => ?_)
  · refine j_aload_n (q := 145) h dX1_takeOff_144 rfl rfl ?_
    refine j_cVi (q := 148) (As := []) h rfl hf (fun _ hx => ct_X4_size _ _ _ hx) ml_X1_46 vw_X4_size rf_X1_takeOff_X4_size ⟨Nat.zero_le _, Nat.zero_le _⟩ (Nat.le_of_ble_eq_true rfl) dX1_takeOff_145 rfl (fun _ _ hf => ?_)
    exact j_iret h dX1_takeOff_148 hf
  · refine j_bipush (q := 141) (-6) h dX1_takeOff_139 kb_m6 rfl ?_
    refine j_goto 148 h dX1_takeOff_141 (by decide) ?_
    exact j_iret h dX1_takeOff_148 hf
set_option maxRecDepth 20000 in
theorem w_X1_takeOff_45 {g : GT} {K : KT} {P : PT} {res : Int32 × VT} (h : OK g RX1 cX1_takeOff 6 (some .int)) : ∀ (n : Nat) (l0 : Nat) (l1 : Nat) (l2 : Nat) (l3 : Int32) (l4 : Int32) (V : VT), f_X1_takeOff_45 K P n l0 l1 l2 l3 l4 V = some res → J g rm_X1_takeOff (QF g (some (.int res.1)) K P res.2 0 0) 6 K P V 0 0 45 [some (.ref l0), some (.ref l1), some (.ref l2), some (.int l3), some (.int l4), none] [] := by
  intro n
  induction n with
  | zero => intro l0 l1 l2 l3 l4 V hf; rw [f_X1_takeOff_45] at hf; cases hf
  | succ n ih =>
    intro l0 l1 l2 l3 l4 V hf
    rw [f_X1_takeOff_45] at hf
    refine j_iload_n (q := 46) h dX1_takeOff_45 rfl rfl ?_
    refine j_aload_n (q := 47) h dX1_takeOff_46 rfl rfl ?_
    refine j_cVi (q := 50) (As := []) h rfl hf (fun _ hx => ct_X4_size _ _ _ hx) ml_X1_46 vw_X4_size rf_X1_takeOff_X4_size ⟨Nat.zero_le _, Nat.zero_le _⟩ (Nat.le_of_ble_eq_true rfl) dX1_takeOff_47 rfl (fun _ _ hf => ?_)
    refine j_icmp_ge (q := 53) 130 h dX1_takeOff_50 (by decide) rfl hf (fun hf => ?_) (fun hf => ?_)
    · exact j_sub (lsub_s (lsub_s (lsub_n (lsub_n (lsub_n (lsub_n lsub_0)))))) (w_X1_takeOff_130 h hf)
    · refine j_iload (q := 55) h dX1_takeOff_53 rfl rfl ?_
      refine j_sipush (q := 58) (400) h dX1_takeOff_55 ks_400 rfl ?_
      refine j_icmp_ge (q := 61) 130 h dX1_takeOff_58 (by decide) rfl hf (fun hf => ?_) (fun hf => ?_)
      · exact j_sub (lsub_s (lsub_s (lsub_n (lsub_n (lsub_n (lsub_n lsub_0)))))) (w_X1_takeOff_130 h hf)
      · refine j_aload_n (q := 62) h dX1_takeOff_61 rfl rfl ?_
        refine j_aload_n (q := 63) h dX1_takeOff_62 rfl rfl ?_
        refine j_iload_n (q := 64) h dX1_takeOff_63 rfl rfl ?_
        refine j_cVi (q := 67) (As := [.ref _, .int _]) h rfl hf (fun _ hx => ct_X1_endsAt _ _ _ hx) ml_X1_78 vw_X1_endsAt rf_X1_takeOff_X1_endsAt ⟨Nat.zero_le _, Nat.zero_le _⟩ (Nat.le_of_ble_eq_true rfl) dX1_takeOff_64 rfl (fun _ _ hf => ?_)
        refine j_if_eq (q := 70) 89 h dX1_takeOff_67 (by decide) rfl hf (fun hf => ?_) (fun hf => ?_)
        · refine j_aload_n (q := 90) h dX1_takeOff_89 rfl rfl ?_
          refine j_aload_n (q := 91) h dX1_takeOff_90 rfl rfl ?_
          refine j_iload_n (q := 92) h dX1_takeOff_91 rfl rfl ?_
          refine j_cVi (q := 95) (As := [.ref _, .int _]) h rfl hf (fun _ hx => ct_X1_meantAt _ _ _ hx) ml_X1_82 vw_X1_meantAt rf_X1_takeOff_X1_meantAt ⟨Nat.zero_le _, Nat.zero_le _⟩ (Nat.le_of_ble_eq_true rfl) dX1_takeOff_92 rfl (fun _ _ hf => ?_)
          refine j_istore (q := 97) [_, _, _, _, _, _] h dX1_takeOff_95 rfl (by decide) rfl rfl ?_
          refine j_iload (q := 99) h dX1_takeOff_97 rfl rfl ?_
          refine j_bipush (q := 101) (-6) h dX1_takeOff_99 kb_m6 rfl ?_
          refine j_icmp_ne (q := 104) 106 h dX1_takeOff_101 (by decide) rfl hf (fun hf => ?_) (fun hf => ?_)
          · refine j_aload_n (q := 107) h dX1_takeOff_106 rfl rfl ?_
            refine j_iload (q := 109) h dX1_takeOff_107 rfl rfl ?_
            refine j_cVv (q := 112) (As := [.int _]) h rfl hf (fun _ hx => ct_X4_add _ _ _ hx) ml_X1_50 vw_X4_add rf_X1_takeOff_X4_add ⟨Nat.zero_le _, Nat.zero_le _⟩ (Nat.le_of_ble_eq_true rfl) dX1_takeOff_109 rfl (fun _ _ hf => ?_)
            refine j_iload_n (q := 113) h dX1_takeOff_112 rfl rfl ?_
            refine j_aload_n (q := 114) h dX1_takeOff_113 rfl rfl ?_
            refine j_aload_n (q := 115) h dX1_takeOff_114 rfl rfl ?_
            refine j_iload_n (q := 116) h dX1_takeOff_115 rfl rfl ?_
            refine j_cVi (q := 119) (As := [.int _]) h rfl hf (fun _ hx => ct_X4_at _ _ _ hx) ml_X1_30 vw_X4_at rf_X1_takeOff_X4_at ⟨Nat.zero_le _, Nat.zero_le _⟩ (Nat.le_of_ble_eq_true rfl) dX1_takeOff_116 rfl (fun _ _ hf => ?_)
            refine j_cVi (q := 122) (As := [.int _]) h rfl hf (fun _ hx => ct_X1_widthOf _ _ _ hx) ml_X1_86 vw_X1_widthOf rf_X1_takeOff_X1_widthOf ⟨Nat.zero_le _, Nat.zero_le _⟩ (Nat.le_of_ble_eq_true rfl) dX1_takeOff_119 rfl (fun _ _ hf => ?_)
            refine j_iadd (q := 123) h dX1_takeOff_122 rfl ?_
            refine j_istore_n (q := 124) [_, _, _, _, _, _] h dX1_takeOff_123 rfl (by decide) rfl rfl ?_
            refine j_iinc (q := 127) _ [_, _, _, _, _, _] h dX1_takeOff_124 rfl (by decide) rfl (kc_1 _) rfl rfl ?_
            refine j_goto 45 h dX1_takeOff_127 (by decide) ?_
            exact j_sub (lsub_s (lsub_s (lsub_s (lsub_s (lsub_s (lsub_n lsub_0)))))) (ih _ _ _ _ _ _ hf)
          · refine j_iload_n (q := 105) h dX1_takeOff_104 rfl rfl ?_
            exact j_iret h dX1_takeOff_105 hf
        · refine j_iload_n (q := 71) h dX1_takeOff_70 rfl rfl ?_
          refine j_iconst (q := 72) (1) h dX1_takeOff_71 ki_1 rfl ?_
          refine j_iadd (q := 73) h dX1_takeOff_72 rfl ?_
          refine j_aload_n (q := 74) h dX1_takeOff_73 rfl rfl ?_
          refine j_cVi (q := 77) (As := []) h rfl hf (fun _ hx => ct_X4_size _ _ _ hx) ml_X1_46 vw_X4_size rf_X1_takeOff_X4_size ⟨Nat.zero_le _, Nat.zero_le _⟩ (Nat.le_of_ble_eq_true rfl) dX1_takeOff_74 rfl (fun _ _ hf => ?_)
          refine j_icmp_ge (q := 80) 86 h dX1_takeOff_77 (by decide) rfl hf (fun hf => ?_) (fun hf => ?_)
          · refine j_bipush (q := 88) (-6) h dX1_takeOff_86 kb_m6 rfl ?_
            exact j_iret h dX1_takeOff_88 hf
          · refine j_iload_n (q := 81) h dX1_takeOff_80 rfl rfl ?_
            refine j_iconst (q := 82) (1) h dX1_takeOff_81 ki_1 rfl ?_
            refine j_iadd (q := 83) h dX1_takeOff_82 rfl ?_
            refine j_goto 88 h dX1_takeOff_83 (by decide) ?_
            exact j_iret h dX1_takeOff_88 hf
set_option maxRecDepth 20000 in
theorem w_X1_takeOff_41 {g : GT} {K : KT} {P : PT} {res : Int32 × VT} (h : OK g RX1 cX1_takeOff 6 (some .int)) {l0 : Nat} {l1 : Nat} {l2 : Nat} {s0 : Int32} {V : VT} (hf : f_X1_takeOff_41 K P l0 l1 l2 s0 V = some res) : J g rm_X1_takeOff (QF g (some (.int res.1)) K P res.2 0 0) 6 K P V 0 0 41 [some (.ref l0), some (.ref l1), some (.ref l2), none, none, none] [.int s0] := by
  rw [f_X1_takeOff_41] at hf
  refine j_istore_n (q := 42) [_, _, _, _, _, _] h dX1_takeOff_41 rfl (by decide) rfl rfl ?_
  refine j_iconst (q := 43) (0) h dX1_takeOff_42 ki_0 rfl ?_
  refine j_istore (q := 45) [_, _, _, _, _, _] h dX1_takeOff_43 rfl (by decide) rfl rfl ?_
  exact j_sub (lsub_s (lsub_s (lsub_s (lsub_s (lsub_s (lsub_n lsub_0)))))) (w_X1_takeOff_45 h FU _ _ _ _ _ _ hf)
set_option maxRecDepth 20000 in
theorem w_X1_takeOff_27 {g : GT} {K : KT} {P : PT} {res : Int32 × VT} (h : OK g RX1 cX1_takeOff 6 (some .int)) {l0 : Nat} {l1 : Nat} {l2 : Nat} {V : VT} (hf : f_X1_takeOff_27 K P l0 l1 l2 V = some res) : J g rm_X1_takeOff (QF g (some (.int res.1)) K P res.2 0 0) 6 K P V 0 0 27 [some (.ref l0), some (.ref l1), some (.ref l2), none, none, none] [] := by
  rw [f_X1_takeOff_27] at hf
  refine j_aload_n (q := 28) h dX1_takeOff_27 rfl rfl ?_
  refine j_gI (q := 31) h uin_X1 rfl rfl (by decide) rfl fl_X1_9 dX1_takeOff_28 rfl hf (fun hf => ?_)
  refine j_bipush (q := 33) (-6) h dX1_takeOff_31 kb_m6 rfl ?_
  refine j_icmp_ne (q := 36) 40 h dX1_takeOff_33 (by decide) rfl hf (fun hf => ?_) (fun hf => ?_)
  · refine j_iconst (q := 41) (1) h dX1_takeOff_40 ki_1 rfl ?_
    exact j_sub (lsub_s (lsub_s (lsub_s (lsub_n (lsub_n (lsub_n lsub_0)))))) (w_X1_takeOff_41 h hf)
  · refine j_iconst (q := 37) (0) h dX1_takeOff_36 ki_0 rfl ?_
    refine j_goto 41 h dX1_takeOff_37 (by decide) ?_
    exact j_sub (lsub_s (lsub_s (lsub_s (lsub_n (lsub_n (lsub_n lsub_0)))))) (w_X1_takeOff_41 h hf)
set_option maxRecDepth 20000 in
theorem w_X1_takeOff_0 {g : GT} {K : KT} {P : PT} {res : Int32 × VT} (h : OK g RX1 cX1_takeOff 6 (some .int)) {l0 : Nat} {l1 : Nat} {l2 : Nat} {V : VT} (hf : f_X1_takeOff K P l0 l1 l2 V = some res) : J g rm_X1_takeOff (QF g (some (.int res.1)) K P res.2 0 0) 6 K P V 0 0 0 [some (.ref l0), some (.ref l1), some (.ref l2), none, none, none] [] := by
  rw [f_X1_takeOff] at hf
  refine j_aload_n (q := 1) h dX1_takeOff_0 rfl rfl ?_
  refine j_cVv (q := 4) (As := []) h rfl hf (fun _ hx => ct_X4_clear _ _ _ hx) ml_X1_38 vw_X4_clear rf_X1_takeOff_X4_clear ⟨Nat.zero_le _, Nat.zero_le _⟩ (Nat.le_of_ble_eq_true rfl) dX1_takeOff_1 rfl (fun _ _ hf => ?_)
  refine j_aload_n (q := 5) h dX1_takeOff_4 rfl rfl ?_
  refine j_gI (q := 8) h uin_X1 rfl rfl (by decide) rfl fl_X1_9 dX1_takeOff_5 rfl hf (fun hf => ?_)
  refine j_bipush (q := 10) (-6) h dX1_takeOff_8 kb_m6 rfl ?_
  refine j_icmp_eq (q := 13) 27 h dX1_takeOff_10 (by decide) rfl hf (fun hf => ?_) (fun hf => ?_)
  · exact j_sub (lsub_s (lsub_s (lsub_s (lsub_n (lsub_n (lsub_n lsub_0)))))) (w_X1_takeOff_27 h hf)
  · refine j_aload_n (q := 14) h dX1_takeOff_13 rfl rfl ?_
    refine j_iconst (q := 15) (0) h dX1_takeOff_14 ki_0 rfl ?_
    refine j_cVi (q := 18) (As := [.int _]) h rfl hf (fun _ hx => ct_X4_at _ _ _ hx) ml_X1_30 vw_X4_at rf_X1_takeOff_X4_at ⟨Nat.zero_le _, Nat.zero_le _⟩ (Nat.le_of_ble_eq_true rfl) dX1_takeOff_15 rfl (fun _ _ hf => ?_)
    refine j_aload_n (q := 19) h dX1_takeOff_18 rfl rfl ?_
    refine j_gI (q := 22) h uin_X1 rfl rfl (by decide) rfl fl_X1_9 dX1_takeOff_19 rfl hf (fun hf => ?_)
    refine j_icmp_eq (q := 25) 27 h dX1_takeOff_22 (by decide) rfl hf (fun hf => ?_) (fun hf => ?_)
    · exact j_sub (lsub_s (lsub_s (lsub_s (lsub_n (lsub_n (lsub_n lsub_0)))))) (w_X1_takeOff_27 h hf)
    · refine j_iconst (q := 26) (0) h dX1_takeOff_25 ki_0 rfl ?_
      exact j_iret h dX1_takeOff_26 hf
theorem ct_X1_takeOff (l : Launch) (D : va_G) (T : TT) {K : KT} {P : PT} {l0 : Nat} {l1 : Nat} {l2 : Nat} {V : VT} {res : Int32 × VT} (hf : f_X1_takeOff K P l0 l1 l2 V = some res) : CT l D T yX1_takeOff cX1_takeOff 6 (some .int) rm_X1_takeOff K P V [.ref l0, .ref l1, .ref l2] (some (.int res.1)) res.2 :=
  fun _ => CT_of pn_X1 (cat_a (cat_a (cat_a cat_0))) (Nat.le_of_ble_eq_true rfl) [some (.ref l0), some (.ref l1), some (.ref l2), none, none, none] rfl (fun _ _ _ h => w_X1_takeOff_0 h hf)
/-! QuotedLayers$LayerText.canBeMark(I)Z -/
def rm_X2_canBeMark : Room := { frames := 1, cells := 0, slots := 0, locals := 20 }
theorem rf_X2_canBeMark_X1_valueOfDigit : RF rm_X1_valueOfDigit rm_X2_canBeMark 1 := ⟨⟨by decide, by decide⟩, rfl, rfl⟩
theorem rf_X2_canBeMark_X6_isSign : RF rm_X6_isSign rm_X2_canBeMark 1 := ⟨⟨by decide, by decide⟩, rfl, rfl⟩
def f_X2_canBeMark (K : KT) (P : PT) (l0 : Int32) (V : VT) : Option (Int32 × VT) :=
  cS (f_X6_isSign K P l0 V) fun x2 V1 => if x2 = 0 then (rB ((0 : Int32)) V1) else (cS (f_X1_valueOfDigit K P l0 V1) fun x4 V3 => if x4 < 0 then (rB ((1 : Int32)) V3) else (rB ((0 : Int32)) V3))
set_option maxRecDepth 20000 in
theorem w_X2_canBeMark_0 {g : GT} {K : KT} {P : PT} {res : Int32 × VT} (h : OK g RX2 cX2_canBeMark 1 (some .boolean)) {l0 : Int32} {V : VT} (hf : f_X2_canBeMark K P l0 V = some res) : J g rm_X2_canBeMark (QF g (some (.int res.1)) K P res.2 0 0) 1 K P V 0 0 0 [some (.int l0)] [] := by
  rw [f_X2_canBeMark] at hf
  refine j_iload_n (q := 1) h dX2_canBeMark_0 rfl rfl ?_
  refine j_cNi (q := 4) (As := [.int _]) h rfl hf (fun _ hx => ct_X6_isSign _ _ _ hx) (fun _ h => h.1) sw_X6_isSign rf_X2_canBeMark_X6_isSign ⟨Nat.zero_le _, Nat.zero_le _⟩ (Nat.le_of_ble_eq_true rfl) dX2_canBeMark_1 rfl (fun _ _ hf => ?_)
  refine j_if_eq (q := 7) 18 h dX2_canBeMark_4 (by decide) rfl hf (fun hf => ?_) (fun hf => ?_)
  · refine j_iconst (q := 19) (0) h dX2_canBeMark_18 ki_0 rfl ?_
    exact j_zret h dX2_canBeMark_19 hf
  · refine j_iload_n (q := 8) h dX2_canBeMark_7 rfl rfl ?_
    refine j_cSi (q := 11) (As := [.int _]) h rfl hf (fun _ hx => ct_X1_valueOfDigit _ _ _ hx) ml_X2_44 sw_X1_valueOfDigit rf_X2_canBeMark_X1_valueOfDigit ⟨Nat.zero_le _, Nat.zero_le _⟩ (Nat.le_of_ble_eq_true rfl) dX2_canBeMark_8 rfl (fun _ _ hf => ?_)
    refine j_if_ge (q := 14) 18 h dX2_canBeMark_11 (by decide) rfl hf (fun hf => ?_) (fun hf => ?_)
    · refine j_iconst (q := 19) (0) h dX2_canBeMark_18 ki_0 rfl ?_
      exact j_zret h dX2_canBeMark_19 hf
    · refine j_iconst (q := 15) (1) h dX2_canBeMark_14 ki_1 rfl ?_
      refine j_goto 19 h dX2_canBeMark_15 (by decide) ?_
      exact j_zret h dX2_canBeMark_19 hf
theorem ct_X2_canBeMark (l : Launch) (D : va_G) (T : TT) {K : KT} {P : PT} {l0 : Int32} {V : VT} {res : Int32 × VT} (hf : f_X2_canBeMark K P l0 V = some res) : CT l D T yX2_canBeMark cX2_canBeMark 1 (some .boolean) rm_X2_canBeMark K P V [.int l0] (some (.int res.1)) res.2 :=
  fun _ => CT_of pn_X2 (cat_i cat_0) (Nat.le_of_ble_eq_true rfl) [some (.int l0)] rfl (fun _ _ _ h => w_X2_canBeMark_0 h hf)
/-! QuotedLayers$LayerText.canBeWay(II)Z -/
def rm_X2_canBeWay : Room := { frames := 0, cells := 0, slots := 0, locals := 0 }
def f_X2_canBeWay (K : KT) (P : PT) (l0 : Int32) (l1 : Int32) (V : VT) : Option (Int32 × VT) :=
  if l0 = ((50 : Int32)) then (if l1 = ((45 : Int32)) then (rB ((0 : Int32)) V) else (rB ((1 : Int32)) V)) else (if l0 < ((48 : Int32)) then (rB ((0 : Int32)) V) else (if ((51 : Int32)) < l0 then (rB ((0 : Int32)) V) else (rB ((1 : Int32)) V)))
set_option maxRecDepth 20000 in
theorem w_X2_canBeWay_0 {g : GT} {K : KT} {P : PT} {res : Int32 × VT} (h : OK g RX2 cX2_canBeWay 2 (some .boolean)) {l0 : Int32} {l1 : Int32} {V : VT} (hf : f_X2_canBeWay K P l0 l1 V = some res) : J g rm_X2_canBeWay (QF g (some (.int res.1)) K P res.2 0 0) 2 K P V 0 0 0 [some (.int l0), some (.int l1)] [] := by
  rw [f_X2_canBeWay] at hf
  refine j_iload_n (q := 1) h dX2_canBeWay_0 rfl rfl ?_
  refine j_bipush (q := 3) (50) h dX2_canBeWay_1 kb_50 rfl ?_
  refine j_icmp_ne (q := 6) 18 h dX2_canBeWay_3 (by decide) rfl hf (fun hf => ?_) (fun hf => ?_)
  · refine j_iload_n (q := 19) h dX2_canBeWay_18 rfl rfl ?_
    refine j_bipush (q := 21) (48) h dX2_canBeWay_19 kb_48 rfl ?_
    refine j_icmp_lt (q := 24) 34 h dX2_canBeWay_21 (by decide) rfl hf (fun hf => ?_) (fun hf => ?_)
    · refine j_iconst (q := 35) (0) h dX2_canBeWay_34 ki_0 rfl ?_
      exact j_zret h dX2_canBeWay_35 hf
    · refine j_iload_n (q := 25) h dX2_canBeWay_24 rfl rfl ?_
      refine j_bipush (q := 27) (51) h dX2_canBeWay_25 kb_51 rfl ?_
      refine j_icmp_gt (q := 30) 34 h dX2_canBeWay_27 (by decide) rfl hf (fun hf => ?_) (fun hf => ?_)
      · refine j_iconst (q := 35) (0) h dX2_canBeWay_34 ki_0 rfl ?_
        exact j_zret h dX2_canBeWay_35 hf
      · refine j_iconst (q := 31) (1) h dX2_canBeWay_30 ki_1 rfl ?_
        refine j_goto 35 h dX2_canBeWay_31 (by decide) ?_
        exact j_zret h dX2_canBeWay_35 hf
  · refine j_iload_n (q := 7) h dX2_canBeWay_6 rfl rfl ?_
    refine j_bipush (q := 9) (45) h dX2_canBeWay_7 kb_45 rfl ?_
    refine j_icmp_eq (q := 12) 16 h dX2_canBeWay_9 (by decide) rfl hf (fun hf => ?_) (fun hf => ?_)
    · refine j_iconst (q := 17) (0) h dX2_canBeWay_16 ki_0 rfl ?_
      exact j_zret h dX2_canBeWay_17 hf
    · refine j_iconst (q := 13) (1) h dX2_canBeWay_12 ki_1 rfl ?_
      refine j_goto 17 h dX2_canBeWay_13 (by decide) ?_
      exact j_zret h dX2_canBeWay_17 hf
theorem ct_X2_canBeWay (l : Launch) (D : va_G) (T : TT) {K : KT} {P : PT} {l0 : Int32} {l1 : Int32} {V : VT} {res : Int32 × VT} (hf : f_X2_canBeWay K P l0 l1 V = some res) : CT l D T yX2_canBeWay cX2_canBeWay 2 (some .boolean) rm_X2_canBeWay K P V [.int l0, .int l1] (some (.int res.1)) res.2 :=
  fun _ => CT_of pn_X2 (cat_i (cat_i cat_0)) (Nat.le_of_ble_eq_true rfl) [some (.int l0), some (.int l1)] rfl (fun _ _ _ h => w_X2_canBeWay_0 h hf)
/-! QuotedLayers$LayerText.isNewSign(LQuotedLayers$Row;I)Z -/
def rm_X2_isNewSign : Room := { frames := 2, cells := 0, slots := 0, locals := 40 }
theorem rf_X2_isNewSign_X2_canBeMark : RF rm_X2_canBeMark rm_X2_isNewSign 1 := ⟨⟨by decide, by decide⟩, rfl, rfl⟩
theorem rf_X2_isNewSign_X4_at : RF rm_X4_at rm_X2_isNewSign 2 := ⟨⟨by decide, by decide⟩, rfl, rfl⟩
theorem rf_X2_isNewSign_X4_hasAhead : RF rm_X4_hasAhead rm_X2_isNewSign 4 := ⟨⟨by decide, by decide⟩, rfl, rfl⟩
def f_X2_isNewSign (K : KT) (P : PT) (l0 : Nat) (l1 : Int32) (V : VT) : Option (Int32 × VT) :=
  cV K l0 2 (f_X4_at K P l0 l1 V) fun x2 V1 => cS (f_X2_canBeMark K P x2 V1) fun x4 V3 => if x4 = 0 then (rB ((0 : Int32)) V3) else (if x2 = ((45 : Int32)) then (rB ((0 : Int32)) V3) else (cV K l0 2 (f_X4_hasAhead K P l0 x2 l1 V3) fun x6 V5 => if x6 = 0 then (rB ((1 : Int32)) V5) else (rB ((0 : Int32)) V5)))
set_option maxRecDepth 20000 in
theorem w_X2_isNewSign_0 {g : GT} {K : KT} {P : PT} {res : Int32 × VT} (h : OK g RX2 cX2_isNewSign 3 (some .boolean)) {l0 : Nat} {l1 : Int32} {V : VT} (hf : f_X2_isNewSign K P l0 l1 V = some res) : J g rm_X2_isNewSign (QF g (some (.int res.1)) K P res.2 0 0) 3 K P V 0 0 0 [some (.ref l0), some (.int l1), none] [] := by
  rw [f_X2_isNewSign] at hf
  refine j_aload_n (q := 1) h dX2_isNewSign_0 rfl rfl ?_
  refine j_iload_n (q := 2) h dX2_isNewSign_1 rfl rfl ?_
  refine j_cVi (q := 5) (As := [.int _]) h rfl hf (fun _ hx => ct_X4_at _ _ _ hx) ml_X2_9 vw_X4_at rf_X2_isNewSign_X4_at ⟨Nat.zero_le _, Nat.zero_le _⟩ (Nat.le_of_ble_eq_true rfl) dX2_isNewSign_2 rfl (fun _ _ hf => ?_)
  refine j_istore_n (q := 6) [_, _, _] h dX2_isNewSign_5 rfl (by decide) rfl rfl ?_
  refine j_iload_n (q := 7) h dX2_isNewSign_6 rfl rfl ?_
  refine j_cSi (q := 10) (As := [.int _]) h rfl hf (fun _ hx => ct_X2_canBeMark _ _ _ hx) ml_X2_15 sw_X2_canBeMark rf_X2_isNewSign_X2_canBeMark ⟨Nat.zero_le _, Nat.zero_le _⟩ (Nat.le_of_ble_eq_true rfl) dX2_isNewSign_7 rfl (fun _ _ hf => ?_)
  refine j_if_eq (q := 13) 32 h dX2_isNewSign_10 (by decide) rfl hf (fun hf => ?_) (fun hf => ?_)
  · refine j_iconst (q := 33) (0) h dX2_isNewSign_32 ki_0 rfl ?_
    exact j_zret h dX2_isNewSign_33 hf
  · refine j_iload_n (q := 14) h dX2_isNewSign_13 rfl rfl ?_
    refine j_bipush (q := 16) (45) h dX2_isNewSign_14 kb_45 rfl ?_
    refine j_icmp_eq (q := 19) 32 h dX2_isNewSign_16 (by decide) rfl hf (fun hf => ?_) (fun hf => ?_)
    · refine j_iconst (q := 33) (0) h dX2_isNewSign_32 ki_0 rfl ?_
      exact j_zret h dX2_isNewSign_33 hf
    · refine j_aload_n (q := 20) h dX2_isNewSign_19 rfl rfl ?_
      refine j_iload_n (q := 21) h dX2_isNewSign_20 rfl rfl ?_
      refine j_iload_n (q := 22) h dX2_isNewSign_21 rfl rfl ?_
      refine j_cVi (q := 25) (As := [.int _, .int _]) h rfl hf (fun _ hx => ct_X4_hasAhead _ _ _ hx) ml_X2_47 vw_X4_hasAhead rf_X2_isNewSign_X4_hasAhead ⟨Nat.zero_le _, Nat.zero_le _⟩ (Nat.le_of_ble_eq_true rfl) dX2_isNewSign_22 rfl (fun _ _ hf => ?_)
      refine j_if_ne (q := 28) 32 h dX2_isNewSign_25 (by decide) rfl hf (fun hf => ?_) (fun hf => ?_)
      · refine j_iconst (q := 33) (0) h dX2_isNewSign_32 ki_0 rfl ?_
        exact j_zret h dX2_isNewSign_33 hf
      · refine j_iconst (q := 29) (1) h dX2_isNewSign_28 ki_1 rfl ?_
        refine j_goto 33 h dX2_isNewSign_29 (by decide) ?_
        exact j_zret h dX2_isNewSign_33 hf
theorem ct_X2_isNewSign (l : Launch) (D : va_G) (T : TT) {K : KT} {P : PT} {l0 : Nat} {l1 : Int32} {V : VT} {res : Int32 × VT} (hf : f_X2_isNewSign K P l0 l1 V = some res) : CT l D T yX2_isNewSign cX2_isNewSign 3 (some .boolean) rm_X2_isNewSign K P V [.ref l0, .int l1] (some (.int res.1)) res.2 :=
  fun _ => CT_of pn_X2 (cat_a (cat_i cat_0)) (Nat.le_of_ble_eq_true rfl) [some (.ref l0), some (.int l1), none] rfl (fun _ _ _ h => w_X2_isNewSign_0 h hf)
/-! QuotedLayers$LayerText.faultIn(LQuotedLayers$Row;)I -/
def rm_X2_faultIn : Room := { frames := 3, cells := 0, slots := 0, locals := 62 }
theorem rf_X2_faultIn_X1_hasMask : RF rm_X1_hasMask rm_X2_faultIn 1 := ⟨⟨by decide, by decide⟩, rfl, rfl⟩
theorem rf_X2_faultIn_X2_canBeMark : RF rm_X2_canBeMark rm_X2_faultIn 1 := ⟨⟨by decide, by decide⟩, rfl, rfl⟩
theorem rf_X2_faultIn_X2_canBeWay : RF rm_X2_canBeWay rm_X2_faultIn 2 := ⟨⟨by decide, by decide⟩, rfl, rfl⟩
theorem rf_X2_faultIn_X2_firstHeld : RF rm_X2_firstHeld rm_X2_faultIn 1 := ⟨⟨by decide, by decide⟩, rfl, rfl⟩
theorem rf_X2_faultIn_X2_isNewSign : RF rm_X2_isNewSign rm_X2_faultIn 3 := ⟨⟨by decide, by decide⟩, rfl, rfl⟩
theorem rf_X2_faultIn_X4_at : RF rm_X4_at rm_X2_faultIn 2 := ⟨⟨by decide, by decide⟩, rfl, rfl⟩
theorem rf_X2_faultIn_X4_size : RF rm_X4_size rm_X2_faultIn 1 := ⟨⟨by decide, by decide⟩, rfl, rfl⟩
def f_X2_faultIn_79 (K : KT) (P : PT) : Nat → Nat → Int32 → Int32 → VT → Option (Int32 × VT)
  | 0, _, _, _, _ => none
  | n + 1, l0, l3, l4, V => cV K l0 2 (f_X4_size K P l0 V) fun x2 V1 => if l4 < x2 then (if l4 < l3 then (cS (f_X2_isNewSign K P l0 l4 V1) fun x4 V3 => if x4 = 0 then (some (l4, V3)) else ((f_X2_faultIn_79 K P n) l0 l3 (l4 + (1 : Int32)) V3)) else (some (l4, V1))) else (some ((-6 : Int32), V1))
def f_X2_faultIn_74 (K : KT) (P : PT) (l0 : Nat) (l2 : Int32) (s0 : Int32) (s1 : Int32) (V : VT) : Option (Int32 × VT) :=
  f_X2_faultIn_79 K P FU l0 (s0 + s1) l2 V
def f_X2_faultIn_57 (K : KT) (P : PT) (l0 : Nat) (l1 : Int32) (V : VT) : Option (Int32 × VT) :=
  cS (f_X2_firstHeld K P l1 V) fun x2 V1 => if l1 = ((2 : Int32)) then (f_X2_faultIn_74 K P l0 x2 x2 ((0 : Int32)) V1) else (f_X2_faultIn_74 K P l0 x2 x2 ((6 : Int32)) V1)
def f_X2_faultIn (K : KT) (P : PT) (l0 : Nat) (V : VT) : Option (Int32 × VT) :=
  cV K l0 2 (f_X4_at K P l0 ((0 : Int32)) V) fun x2 V1 => cS (f_X2_canBeMark K P x2 V1) fun x4 V3 => if x4 = 0 then (some ((0 : Int32), V3)) else (cV K l0 2 (f_X4_at K P l0 ((1 : Int32)) V3) fun x6 V5 => cV K l0 2 (f_X4_at K P l0 ((0 : Int32)) V5) fun x8 V7 => cS (f_X2_canBeWay K P x6 x8 V7) fun x10 V9 => if x10 = 0 then (some ((1 : Int32), V9)) else (cV K l0 2 (f_X4_at K P l0 ((1 : Int32)) V9) fun x12 V11 => cS (f_X1_hasMask K P (x12 - ((48 : Int32))) V11) fun x14 V13 => if x14 = 0 then (f_X2_faultIn_57 K P l0 (x12 - ((48 : Int32))) V13) else (cS (f_X2_isNewSign K P l0 ((2 : Int32)) V13) fun x16 V15 => if x16 = 0 then (some ((2 : Int32), V15)) else (f_X2_faultIn_57 K P l0 (x12 - ((48 : Int32))) V15))))
set_option maxRecDepth 20000 in
theorem w_X2_faultIn_79 {g : GT} {K : KT} {P : PT} {res : Int32 × VT} (h : OK g RX2 cX2_faultIn 5 (some .int)) : ∀ (n : Nat) (l0 : Nat) (l3 : Int32) (l4 : Int32) (V : VT), f_X2_faultIn_79 K P n l0 l3 l4 V = some res → J g rm_X2_faultIn (QF g (some (.int res.1)) K P res.2 0 0) 5 K P V 0 0 79 [some (.ref l0), none, none, some (.int l3), some (.int l4)] [] := by
  intro n
  induction n with
  | zero => intro l0 l3 l4 V hf; rw [f_X2_faultIn_79] at hf; cases hf
  | succ n ih =>
    intro l0 l3 l4 V hf
    rw [f_X2_faultIn_79] at hf
    refine j_iload (q := 81) h dX2_faultIn_79 rfl rfl ?_
    refine j_aload_n (q := 82) h dX2_faultIn_81 rfl rfl ?_
    refine j_cVi (q := 85) (As := []) h rfl hf (fun _ hx => ct_X4_size _ _ _ hx) ml_X2_37 vw_X4_size rf_X2_faultIn_X4_size ⟨Nat.zero_le _, Nat.zero_le _⟩ (Nat.le_of_ble_eq_true rfl) dX2_faultIn_82 rfl (fun _ _ hf => ?_)
    refine j_icmp_ge (q := 88) 112 h dX2_faultIn_85 (by decide) rfl hf (fun hf => ?_) (fun hf => ?_)
    · refine j_bipush (q := 114) (-6) h dX2_faultIn_112 kb_m6 rfl ?_
      exact j_iret h dX2_faultIn_114 hf
    · refine j_iload (q := 90) h dX2_faultIn_88 rfl rfl ?_
      refine j_iload_n (q := 91) h dX2_faultIn_90 rfl rfl ?_
      refine j_icmp_ge (q := 94) 103 h dX2_faultIn_91 (by decide) rfl hf (fun hf => ?_) (fun hf => ?_)
      · refine j_iload (q := 105) h dX2_faultIn_103 rfl rfl ?_
        exact j_iret h dX2_faultIn_105 hf
      · refine j_aload_n (q := 95) h dX2_faultIn_94 rfl rfl ?_
        refine j_iload (q := 97) h dX2_faultIn_95 rfl rfl ?_
        refine j_cSi (q := 100) (As := [.ref _, .int _]) h rfl hf (fun _ hx => ct_X2_isNewSign _ _ _ hx) ml_X2_30 sw_X2_isNewSign rf_X2_faultIn_X2_isNewSign ⟨Nat.zero_le _, Nat.zero_le _⟩ (Nat.le_of_ble_eq_true rfl) dX2_faultIn_97 rfl (fun _ _ hf => ?_)
        refine j_if_ne (q := 103) 106 h dX2_faultIn_100 (by decide) rfl hf (fun hf => ?_) (fun hf => ?_)
        · refine j_iinc (q := 109) _ [_, _, _, _, _] h dX2_faultIn_106 rfl (by decide) rfl (kc_1 _) rfl rfl ?_
          refine j_goto 79 h dX2_faultIn_109 (by decide) ?_
          exact j_sub (lsub_s (lsub_n (lsub_n (lsub_s (lsub_s lsub_0))))) (ih _ _ _ _ hf)
        · refine j_iload (q := 105) h dX2_faultIn_103 rfl rfl ?_
          exact j_iret h dX2_faultIn_105 hf
set_option maxRecDepth 20000 in
theorem w_X2_faultIn_74 {g : GT} {K : KT} {P : PT} {res : Int32 × VT} (h : OK g RX2 cX2_faultIn 5 (some .int)) {l0 : Nat} {l2 : Int32} {s0 : Int32} {s1 : Int32} {V : VT} (hf : f_X2_faultIn_74 K P l0 l2 s0 s1 V = some res) : J g rm_X2_faultIn (QF g (some (.int res.1)) K P res.2 0 0) 5 K P V 0 0 74 [some (.ref l0), none, some (.int l2), none, none] [.int s1, .int s0] := by
  rw [f_X2_faultIn_74] at hf
  refine j_iadd (q := 75) h dX2_faultIn_74 rfl ?_
  refine j_istore_n (q := 76) [_, _, _, _, _] h dX2_faultIn_75 rfl (by decide) rfl rfl ?_
  refine j_iload_n (q := 77) h dX2_faultIn_76 rfl rfl ?_
  refine j_istore (q := 79) [_, _, _, _, _] h dX2_faultIn_77 rfl (by decide) rfl rfl ?_
  exact j_sub (lsub_s (lsub_n (lsub_n (lsub_s (lsub_s lsub_0))))) (w_X2_faultIn_79 h FU _ _ _ _ hf)
set_option maxRecDepth 20000 in
theorem w_X2_faultIn_57 {g : GT} {K : KT} {P : PT} {res : Int32 × VT} (h : OK g RX2 cX2_faultIn 5 (some .int)) {l0 : Nat} {l1 : Int32} {V : VT} (hf : f_X2_faultIn_57 K P l0 l1 V = some res) : J g rm_X2_faultIn (QF g (some (.int res.1)) K P res.2 0 0) 5 K P V 0 0 57 [some (.ref l0), some (.int l1), none, none, none] [] := by
  rw [f_X2_faultIn_57] at hf
  refine j_iload_n (q := 58) h dX2_faultIn_57 rfl rfl ?_
  refine j_cSi (q := 61) (As := [.int _]) h rfl hf (fun _ hx => ct_X2_firstHeld _ _ _ hx) ml_X2_34 sw_X2_firstHeld rf_X2_faultIn_X2_firstHeld ⟨Nat.zero_le _, Nat.zero_le _⟩ (Nat.le_of_ble_eq_true rfl) dX2_faultIn_58 rfl (fun _ _ hf => ?_)
  refine j_istore_n (q := 62) [_, _, _, _, _] h dX2_faultIn_61 rfl (by decide) rfl rfl ?_
  refine j_iload_n (q := 63) h dX2_faultIn_62 rfl rfl ?_
  refine j_iload_n (q := 64) h dX2_faultIn_63 rfl rfl ?_
  refine j_iconst (q := 65) (2) h dX2_faultIn_64 ki_2 rfl ?_
  refine j_icmp_ne (q := 68) 72 h dX2_faultIn_65 (by decide) rfl hf (fun hf => ?_) (fun hf => ?_)
  · refine j_bipush (q := 74) (6) h dX2_faultIn_72 kb_6 rfl ?_
    exact j_sub (lsub_s (lsub_n (lsub_s (lsub_n (lsub_n lsub_0))))) (w_X2_faultIn_74 h hf)
  · refine j_iconst (q := 69) (0) h dX2_faultIn_68 ki_0 rfl ?_
    refine j_goto 74 h dX2_faultIn_69 (by decide) ?_
    exact j_sub (lsub_s (lsub_n (lsub_s (lsub_n (lsub_n lsub_0))))) (w_X2_faultIn_74 h hf)
set_option maxRecDepth 20000 in
theorem w_X2_faultIn_0 {g : GT} {K : KT} {P : PT} {res : Int32 × VT} (h : OK g RX2 cX2_faultIn 5 (some .int)) {l0 : Nat} {V : VT} (hf : f_X2_faultIn K P l0 V = some res) : J g rm_X2_faultIn (QF g (some (.int res.1)) K P res.2 0 0) 5 K P V 0 0 0 [some (.ref l0), none, none, none, none] [] := by
  rw [f_X2_faultIn] at hf
  refine j_aload_n (q := 1) h dX2_faultIn_0 rfl rfl ?_
  refine j_iconst (q := 2) (0) h dX2_faultIn_1 ki_0 rfl ?_
  refine j_cVi (q := 5) (As := [.int _]) h rfl hf (fun _ hx => ct_X4_at _ _ _ hx) ml_X2_9 vw_X4_at rf_X2_faultIn_X4_at ⟨Nat.zero_le _, Nat.zero_le _⟩ (Nat.le_of_ble_eq_true rfl) dX2_faultIn_2 rfl (fun _ _ hf => ?_)
  refine j_cSi (q := 8) (As := [.int _]) h rfl hf (fun _ hx => ct_X2_canBeMark _ _ _ hx) ml_X2_15 sw_X2_canBeMark rf_X2_faultIn_X2_canBeMark ⟨Nat.zero_le _, Nat.zero_le _⟩ (Nat.le_of_ble_eq_true rfl) dX2_faultIn_5 rfl (fun _ _ hf => ?_)
  refine j_if_ne (q := 11) 13 h dX2_faultIn_8 (by decide) rfl hf (fun hf => ?_) (fun hf => ?_)
  · refine j_aload_n (q := 14) h dX2_faultIn_13 rfl rfl ?_
    refine j_iconst (q := 15) (1) h dX2_faultIn_14 ki_1 rfl ?_
    refine j_cVi (q := 18) (As := [.int _]) h rfl hf (fun _ hx => ct_X4_at _ _ _ hx) ml_X2_9 vw_X4_at rf_X2_faultIn_X4_at ⟨Nat.zero_le _, Nat.zero_le _⟩ (Nat.le_of_ble_eq_true rfl) dX2_faultIn_15 rfl (fun _ _ hf => ?_)
    refine j_aload_n (q := 19) h dX2_faultIn_18 rfl rfl ?_
    refine j_iconst (q := 20) (0) h dX2_faultIn_19 ki_0 rfl ?_
    refine j_cVi (q := 23) (As := [.int _]) h rfl hf (fun _ hx => ct_X4_at _ _ _ hx) ml_X2_9 vw_X4_at rf_X2_faultIn_X4_at ⟨Nat.zero_le _, Nat.zero_le _⟩ (Nat.le_of_ble_eq_true rfl) dX2_faultIn_20 rfl (fun _ _ hf => ?_)
    refine j_cSi (q := 26) (As := [.int _, .int _]) h rfl hf (fun _ hx => ct_X2_canBeWay _ _ _ hx) ml_X2_21 sw_X2_canBeWay rf_X2_faultIn_X2_canBeWay ⟨Nat.zero_le _, Nat.zero_le _⟩ (Nat.le_of_ble_eq_true rfl) dX2_faultIn_23 rfl (fun _ _ hf => ?_)
    refine j_if_ne (q := 29) 31 h dX2_faultIn_26 (by decide) rfl hf (fun hf => ?_) (fun hf => ?_)
    · refine j_aload_n (q := 32) h dX2_faultIn_31 rfl rfl ?_
      refine j_iconst (q := 33) (1) h dX2_faultIn_32 ki_1 rfl ?_
      refine j_cVi (q := 36) (As := [.int _]) h rfl hf (fun _ hx => ct_X4_at _ _ _ hx) ml_X2_9 vw_X4_at rf_X2_faultIn_X4_at ⟨Nat.zero_le _, Nat.zero_le _⟩ (Nat.le_of_ble_eq_true rfl) dX2_faultIn_33 rfl (fun _ _ hf => ?_)
      refine j_bipush (q := 38) (48) h dX2_faultIn_36 kb_48 rfl ?_
      refine j_isub (q := 39) h dX2_faultIn_38 rfl ?_
      refine j_istore_n (q := 40) [_, _, _, _, _] h dX2_faultIn_39 rfl (by decide) rfl rfl ?_
      refine j_iload_n (q := 41) h dX2_faultIn_40 rfl rfl ?_
      refine j_cSi (q := 44) (As := [.int _]) h rfl hf (fun _ hx => ct_X1_hasMask _ _ _ hx) ml_X2_25 sw_X1_hasMask rf_X2_faultIn_X1_hasMask ⟨Nat.zero_le _, Nat.zero_le _⟩ (Nat.le_of_ble_eq_true rfl) dX2_faultIn_41 rfl (fun _ _ hf => ?_)
      refine j_if_eq (q := 47) 57 h dX2_faultIn_44 (by decide) rfl hf (fun hf => ?_) (fun hf => ?_)
      · exact j_sub (lsub_s (lsub_s (lsub_n (lsub_n (lsub_n lsub_0))))) (w_X2_faultIn_57 h hf)
      · refine j_aload_n (q := 48) h dX2_faultIn_47 rfl rfl ?_
        refine j_iconst (q := 49) (2) h dX2_faultIn_48 ki_2 rfl ?_
        refine j_cSi (q := 52) (As := [.ref _, .int _]) h rfl hf (fun _ hx => ct_X2_isNewSign _ _ _ hx) ml_X2_30 sw_X2_isNewSign rf_X2_faultIn_X2_isNewSign ⟨Nat.zero_le _, Nat.zero_le _⟩ (Nat.le_of_ble_eq_true rfl) dX2_faultIn_49 rfl (fun _ _ hf => ?_)
        refine j_if_ne (q := 55) 57 h dX2_faultIn_52 (by decide) rfl hf (fun hf => ?_) (fun hf => ?_)
        · exact j_sub (lsub_s (lsub_s (lsub_n (lsub_n (lsub_n lsub_0))))) (w_X2_faultIn_57 h hf)
        · refine j_iconst (q := 56) (2) h dX2_faultIn_55 ki_2 rfl ?_
          exact j_iret h dX2_faultIn_56 hf
    · refine j_iconst (q := 30) (1) h dX2_faultIn_29 ki_1 rfl ?_
      exact j_iret h dX2_faultIn_30 hf
  · refine j_iconst (q := 12) (0) h dX2_faultIn_11 ki_0 rfl ?_
    exact j_iret h dX2_faultIn_12 hf
theorem ct_X2_faultIn (l : Launch) (D : va_G) (T : TT) {K : KT} {P : PT} {l0 : Nat} {V : VT} {res : Int32 × VT} (hf : f_X2_faultIn K P l0 V = some res) : CT l D T yX2_faultIn cX2_faultIn 5 (some .int) rm_X2_faultIn K P V [.ref l0] (some (.int res.1)) res.2 :=
  fun _ => CT_of pn_X2 (cat_a cat_0) (Nat.le_of_ble_eq_true rfl) [some (.ref l0), none, none, none, none] rfl (fun _ _ _ h => w_X2_faultIn_0 h hf)
/-! QuotedLayers$Passage.here()LQuotedLayers$Row; -/
def rm_X3_here : Room := { frames := 0, cells := 0, slots := 0, locals := 0 }
def f_X3_here (K : KT) (P : PT) (l0 : Nat) (V : VT) : Option (Nat × VT) :=
  gI K V l0 1 2 fun x1 => if x1 = 0 then (gR K P l0 1 0 fun b2 => some (b2, V)) else (gR K P l0 1 1 fun b3 => some (b3, V))
set_option maxRecDepth 20000 in
theorem w_X3_here_0 {g : GT} {K : KT} {P : PT} {res : Nat × VT} (h : OK g RX3 cX3_here 1 (some (.object "QuotedLayers$Row"))) {l0 : Nat} {V : VT} (hf : f_X3_here K P l0 V = some res) : J g rm_X3_here (QF g (some (.ref res.1)) K P res.2 0 0) 1 K P V 0 0 0 [some (.ref l0)] [] := by
  rw [f_X3_here] at hf
  refine j_aload_n (q := 1) h dX3_here_0 rfl rfl ?_
  refine j_gI (q := 4) h uin_X3 rfl rfl (by decide) rfl fl_X3_23 dX3_here_1 rfl hf (fun hf => ?_)
  refine j_if_eq (q := 7) 14 h dX3_here_4 (by decide) rfl hf (fun hf => ?_) (fun hf => ?_)
  · refine j_aload_n (q := 15) h dX3_here_14 rfl rfl ?_
    refine j_gR (q := 18) h uin_X3 rfl rfl (by decide) rfl fl_X3_14 dX3_here_15 rfl hf (fun b2 hf => ?_)
    exact j_aret h dX3_here_18 hf
  · refine j_aload_n (q := 8) h dX3_here_7 rfl rfl ?_
    refine j_gR (q := 11) h uin_X3 rfl rfl (by decide) rfl fl_X3_20 dX3_here_8 rfl hf (fun b3 hf => ?_)
    refine j_goto 18 h dX3_here_11 (by decide) ?_
    exact j_aret h dX3_here_18 hf
theorem ct_X3_here (l : Launch) (D : va_G) (T : TT) {K : KT} {P : PT} {l0 : Nat} {V : VT} {res : Nat × VT} (hf : f_X3_here K P l0 V = some res) : CT l D T yX3_here cX3_here 1 (some (.object "QuotedLayers$Row")) rm_X3_here K P V [.ref l0] (some (.ref res.1)) res.2 :=
  fun _ => CT_of pn_X3 (cat_a cat_0) (Nat.le_of_ble_eq_true rfl) [some (.ref l0)] rfl (fun _ _ _ h => w_X3_here_0 h hf)
/-! QuotedLayers$Passage.there()LQuotedLayers$Row; -/
def rm_X3_there : Room := { frames := 0, cells := 0, slots := 0, locals := 0 }
def f_X3_there (K : KT) (P : PT) (l0 : Nat) (V : VT) : Option (Nat × VT) :=
  gI K V l0 1 2 fun x1 => if x1 = 0 then (gR K P l0 1 1 fun b2 => some (b2, V)) else (gR K P l0 1 0 fun b3 => some (b3, V))
set_option maxRecDepth 20000 in
theorem w_X3_there_0 {g : GT} {K : KT} {P : PT} {res : Nat × VT} (h : OK g RX3 cX3_there 1 (some (.object "QuotedLayers$Row"))) {l0 : Nat} {V : VT} (hf : f_X3_there K P l0 V = some res) : J g rm_X3_there (QF g (some (.ref res.1)) K P res.2 0 0) 1 K P V 0 0 0 [some (.ref l0)] [] := by
  rw [f_X3_there] at hf
  refine j_aload_n (q := 1) h dX3_there_0 rfl rfl ?_
  refine j_gI (q := 4) h uin_X3 rfl rfl (by decide) rfl fl_X3_23 dX3_there_1 rfl hf (fun hf => ?_)
  refine j_if_eq (q := 7) 14 h dX3_there_4 (by decide) rfl hf (fun hf => ?_) (fun hf => ?_)
  · refine j_aload_n (q := 15) h dX3_there_14 rfl rfl ?_
    refine j_gR (q := 18) h uin_X3 rfl rfl (by decide) rfl fl_X3_20 dX3_there_15 rfl hf (fun b2 hf => ?_)
    exact j_aret h dX3_there_18 hf
  · refine j_aload_n (q := 8) h dX3_there_7 rfl rfl ?_
    refine j_gR (q := 11) h uin_X3 rfl rfl (by decide) rfl fl_X3_14 dX3_there_8 rfl hf (fun b3 hf => ?_)
    refine j_goto 18 h dX3_there_11 (by decide) ?_
    exact j_aret h dX3_there_18 hf
theorem ct_X3_there (l : Launch) (D : va_G) (T : TT) {K : KT} {P : PT} {l0 : Nat} {V : VT} {res : Nat × VT} (hf : f_X3_there K P l0 V = some res) : CT l D T yX3_there cX3_there 1 (some (.object "QuotedLayers$Row")) rm_X3_there K P V [.ref l0] (some (.ref res.1)) res.2 :=
  fun _ => CT_of pn_X3 (cat_a cat_0) (Nat.le_of_ble_eq_true rfl) [some (.ref l0)] rfl (fun _ _ _ h => w_X3_there_0 h hf)
/-! QuotedLayers$Passage.step()V -/
def rm_X3_step : Room := { frames := 0, cells := 0, slots := 0, locals := 0 }
def f_X3_step (K : KT) (P : PT) (l0 : Nat) (V : VT) : Option (Unit × VT) :=
  gI K V l0 1 2 fun x1 => if x1 = 0 then (sB K V l0 1 2 ((1 : Int32)) fun V3 => some ((), V3)) else (sB K V l0 1 2 ((0 : Int32)) fun V2 => some ((), V2))
set_option maxRecDepth 20000 in
theorem w_X3_step_0 {g : GT} {K : KT} {P : PT} {res : Unit × VT} (h : OK g RX3 cX3_step 1 none) {l0 : Nat} {V : VT} (hf : f_X3_step K P l0 V = some res) : J g rm_X3_step (QF g none K P res.2 0 0) 1 K P V 0 0 0 [some (.ref l0)] [] := by
  rw [f_X3_step] at hf
  refine j_aload_n (q := 1) h dX3_step_0 rfl rfl ?_
  refine j_aload_n (q := 2) h dX3_step_1 rfl rfl ?_
  refine j_gI (q := 5) h uin_X3 rfl rfl (by decide) rfl fl_X3_23 dX3_step_2 rfl hf (fun hf => ?_)
  refine j_if_ne (q := 8) 12 h dX3_step_5 (by decide) rfl hf (fun hf => ?_) (fun hf => ?_)
  · refine j_iconst (q := 13) (0) h dX3_step_12 ki_0 rfl ?_
    refine j_sB (q := 16) h tyX3 tyX3_ok nmX3 uin_X3 rfl rfl (by decide) rfl rfl (by decide +kernel) fl_X3_23 dX3_step_13 rfl hf (fun hf => ?_)
    exact j_vret h dX3_step_16 hf
  · refine j_iconst (q := 9) (1) h dX3_step_8 ki_1 rfl ?_
    refine j_goto 13 h dX3_step_9 (by decide) ?_
    refine j_sB (q := 16) h tyX3 tyX3_ok nmX3 uin_X3 rfl rfl (by decide) rfl rfl (by decide +kernel) fl_X3_23 dX3_step_13 rfl hf (fun hf => ?_)
    exact j_vret h dX3_step_16 hf
theorem ct_X3_step (l : Launch) (D : va_G) (T : TT) {K : KT} {P : PT} {l0 : Nat} {V : VT} {res : Unit × VT} (hf : f_X3_step K P l0 V = some res) : CT l D T yX3_step cX3_step 1 none rm_X3_step K P V [.ref l0] none res.2 :=
  fun _ => CT_of pn_X3 (cat_a cat_0) (Nat.le_of_ble_eq_true rfl) [some (.ref l0)] rfl (fun _ _ _ h => w_X3_step_0 h hf)
/-! QuotedLayers$Passage.barringPlace()I -/
def rm_X3_barringPlace : Room := { frames := 0, cells := 0, slots := 0, locals := 0 }
def f_X3_barringPlace (K : KT) (P : PT) (l0 : Nat) (V : VT) : Option (Int32 × VT) :=
  gI K V l0 1 3 fun x1 => some (x1, V)
set_option maxRecDepth 20000 in
theorem w_X3_barringPlace_0 {g : GT} {K : KT} {P : PT} {res : Int32 × VT} (h : OK g RX3 cX3_barringPlace 1 (some .int)) {l0 : Nat} {V : VT} (hf : f_X3_barringPlace K P l0 V = some res) : J g rm_X3_barringPlace (QF g (some (.int res.1)) K P res.2 0 0) 1 K P V 0 0 0 [some (.ref l0)] [] := by
  rw [f_X3_barringPlace] at hf
  refine j_aload_n (q := 1) h dX3_barringPlace_0 rfl rfl ?_
  refine j_gI (q := 4) h uin_X3 rfl rfl (by decide) rfl fl_X3_27 dX3_barringPlace_1 rfl hf (fun hf => ?_)
  exact j_iret h dX3_barringPlace_4 hf
theorem ct_X3_barringPlace (l : Launch) (D : va_G) (T : TT) {K : KT} {P : PT} {l0 : Nat} {V : VT} {res : Int32 × VT} (hf : f_X3_barringPlace K P l0 V = some res) : CT l D T yX3_barringPlace cX3_barringPlace 1 (some .int) rm_X3_barringPlace K P V [.ref l0] (some (.int res.1)) res.2 :=
  fun _ => CT_of pn_X3 (cat_a cat_0) (Nat.le_of_ble_eq_true rfl) [some (.ref l0)] rfl (fun _ _ _ h => w_X3_barringPlace_0 h hf)
/-! QuotedLayers$Passage.badSign()I -/
def rm_X3_badSign : Room := { frames := 0, cells := 0, slots := 0, locals := 0 }
def f_X3_badSign (K : KT) (P : PT) (l0 : Nat) (V : VT) : Option (Int32 × VT) :=
  gI K V l0 1 4 fun x1 => some (x1, V)
set_option maxRecDepth 20000 in
theorem w_X3_badSign_0 {g : GT} {K : KT} {P : PT} {res : Int32 × VT} (h : OK g RX3 cX3_badSign 1 (some .int)) {l0 : Nat} {V : VT} (hf : f_X3_badSign K P l0 V = some res) : J g rm_X3_badSign (QF g (some (.int res.1)) K P res.2 0 0) 1 K P V 0 0 0 [some (.ref l0)] [] := by
  rw [f_X3_badSign] at hf
  refine j_aload_n (q := 1) h dX3_badSign_0 rfl rfl ?_
  refine j_gI (q := 4) h uin_X3 rfl rfl (by decide) rfl fl_X3_31 dX3_badSign_1 rfl hf (fun hf => ?_)
  exact j_iret h dX3_badSign_4 hf
theorem ct_X3_badSign (l : Launch) (D : va_G) (T : TT) {K : KT} {P : PT} {l0 : Nat} {V : VT} {res : Int32 × VT} (hf : f_X3_badSign K P l0 V = some res) : CT l D T yX3_badSign cX3_badSign 1 (some .int) rm_X3_badSign K P V [.ref l0] (some (.int res.1)) res.2 :=
  fun _ => CT_of pn_X3 (cat_a cat_0) (Nat.le_of_ble_eq_true rfl) [some (.ref l0)] rfl (fun _ _ _ h => w_X3_badSign_0 h hf)
