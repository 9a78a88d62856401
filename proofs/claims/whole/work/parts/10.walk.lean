/-! QuotedLayers$Row.size()I -/
def rm_X4_size : Room := { frames := 0, cells := 0, slots := 0, locals := 0 }
def f_X4_size (K : KT) (P : PT) (l0 : Nat) (V : VT) : Option (Int32 × VT) :=
  gI K V l0 2 1 fun x1 => some (x1, V)
set_option maxRecDepth 20000 in
theorem w_X4_size_0 {g : GT} {K : KT} {P : PT} {res : Int32 × VT} (h : OK g RX4 cX4_size 1 (some .int)) {l0 : Nat} {V : VT} (hf : f_X4_size K P l0 V = some res) : J g rm_X4_size (QF g (some (.int res.1)) K P res.2 0 0) 1 K P V 0 0 0 [some (.ref l0)] [] := by
  rw [f_X4_size] at hf
  refine j_aload_n (q := 1) h dX4_size_0 rfl rfl ?_
  refine j_gI (q := 4) h uin_X4 rfl rfl (by decide) rfl fl_X4_9 dX4_size_1 rfl hf (fun hf => ?_)
  exact j_iret h dX4_size_4 hf
theorem ct_X4_size (l : Launch) (D : va_G) (T : TT) {K : KT} {P : PT} {l0 : Nat} {V : VT} {res : Int32 × VT} (hf : f_X4_size K P l0 V = some res) : CT l D T yX4_size cX4_size 1 (some .int) rm_X4_size K P V [.ref l0] (some (.int res.1)) res.2 :=
  fun _ => CT_of pn_X4 (cat_a cat_0) (Nat.le_of_ble_eq_true rfl) [some (.ref l0)] rfl (fun _ _ _ h => w_X4_size_0 h hf)
/-! QuotedLayers$Row.at(I)I -/
def rm_X4_at : Room := { frames := 0, cells := 0, slots := 0, locals := 0 }
def f_X4_at (K : KT) (P : PT) (l0 : Nat) (l1 : Int32) (V : VT) : Option (Int32 × VT) :=
  if l1 < 0 then (some ((-6 : Int32), V)) else (gI K V l0 2 1 fun x1 => if l1 < x1 then (gR K P l0 2 0 fun b2 => aN K b2 fun x3 => if l1 < x3 then (gR K P l0 2 0 fun b4 => aI K V 0 b4 l1 fun x5 => some (x5, V)) else (some ((-6 : Int32), V))) else (some ((-6 : Int32), V)))
set_option maxRecDepth 20000 in
theorem w_X4_at_0 {g : GT} {K : KT} {P : PT} {res : Int32 × VT} (h : OK g RX4 cX4_at 2 (some .int)) {l0 : Nat} {l1 : Int32} {V : VT} (hf : f_X4_at K P l0 l1 V = some res) : J g rm_X4_at (QF g (some (.int res.1)) K P res.2 0 0) 2 K P V 0 0 0 [some (.ref l0), some (.int l1)] [] := by
  rw [f_X4_at] at hf
  refine j_iload_n (q := 1) h dX4_at_0 rfl rfl ?_
  refine j_if_lt (q := 4) 30 h dX4_at_1 (by decide) rfl hf (fun hf => ?_) (fun hf => ?_)
  · refine j_bipush (q := 32) (-6) h dX4_at_30 kb_m6 rfl ?_
    exact j_iret h dX4_at_32 hf
  · refine j_iload_n (q := 5) h dX4_at_4 rfl rfl ?_
    refine j_aload_n (q := 6) h dX4_at_5 rfl rfl ?_
    refine j_gI (q := 9) h uin_X4 rfl rfl (by decide) rfl fl_X4_9 dX4_at_6 rfl hf (fun hf => ?_)
    refine j_icmp_ge (q := 12) 30 h dX4_at_9 (by decide) rfl hf (fun hf => ?_) (fun hf => ?_)
    · refine j_bipush (q := 32) (-6) h dX4_at_30 kb_m6 rfl ?_
      exact j_iret h dX4_at_32 hf
    · refine j_iload_n (q := 13) h dX4_at_12 rfl rfl ?_
      refine j_aload_n (q := 14) h dX4_at_13 rfl rfl ?_
      refine j_gR (q := 17) h uin_X4 rfl rfl (by decide) rfl fl_X4_19 dX4_at_14 rfl hf (fun b2 hf => ?_)
      refine j_alen (q := 18) h dX4_at_17 rfl hf (fun _ hf => ?_)
      refine j_icmp_ge (q := 21) 30 h dX4_at_18 (by decide) rfl hf (fun hf => ?_) (fun hf => ?_)
      · refine j_bipush (q := 32) (-6) h dX4_at_30 kb_m6 rfl ?_
        exact j_iret h dX4_at_32 hf
      · refine j_aload_n (q := 22) h dX4_at_21 rfl rfl ?_
        refine j_gR (q := 25) h uin_X4 rfl rfl (by decide) rfl fl_X4_19 dX4_at_22 rfl hf (fun b4 hf => ?_)
        refine j_iload_n (q := 26) h dX4_at_25 rfl rfl ?_
        refine j_iald (q := 27) h dX4_at_26 rfl hf (fun hf => ?_)
        refine j_goto 32 h dX4_at_27 (by decide) ?_
        exact j_iret h dX4_at_32 hf
theorem ct_X4_at (l : Launch) (D : va_G) (T : TT) {K : KT} {P : PT} {l0 : Nat} {l1 : Int32} {V : VT} {res : Int32 × VT} (hf : f_X4_at K P l0 l1 V = some res) : CT l D T yX4_at cX4_at 2 (some .int) rm_X4_at K P V [.ref l0, .int l1] (some (.int res.1)) res.2 :=
  fun _ => CT_of pn_X4 (cat_a (cat_i cat_0)) (Nat.le_of_ble_eq_true rfl) [some (.ref l0), some (.int l1)] rfl (fun _ _ _ h => w_X4_at_0 h hf)
/-! QuotedLayers$Row.set(II)V -/
def rm_X4_set : Room := { frames := 0, cells := 0, slots := 0, locals := 0 }
def f_X4_set (K : KT) (P : PT) (l0 : Nat) (l1 : Int32) (l2 : Int32) (V : VT) : Option (Unit × VT) :=
  if l1 < 0 then (some ((), V)) else (gI K V l0 2 1 fun x1 => if l1 < x1 then (gR K P l0 2 0 fun b2 => aN K b2 fun x3 => if l1 < x3 then (gR K P l0 2 0 fun b4 => sA K V b4 l1 l2 fun V5 => some ((), V5)) else (some ((), V))) else (some ((), V)))
set_option maxRecDepth 20000 in
theorem w_X4_set_0 {g : GT} {K : KT} {P : PT} {res : Unit × VT} (h : OK g RX4 cX4_set 3 none) {l0 : Nat} {l1 : Int32} {l2 : Int32} {V : VT} (hf : f_X4_set K P l0 l1 l2 V = some res) : J g rm_X4_set (QF g none K P res.2 0 0) 3 K P V 0 0 0 [some (.ref l0), some (.int l1), some (.int l2)] [] := by
  rw [f_X4_set] at hf
  refine j_iload_n (q := 1) h dX4_set_0 rfl rfl ?_
  refine j_if_lt (q := 4) 28 h dX4_set_1 (by decide) rfl hf (fun hf => ?_) (fun hf => ?_)
  · exact j_vret h dX4_set_28 hf
  · refine j_iload_n (q := 5) h dX4_set_4 rfl rfl ?_
    refine j_aload_n (q := 6) h dX4_set_5 rfl rfl ?_
    refine j_gI (q := 9) h uin_X4 rfl rfl (by decide) rfl fl_X4_9 dX4_set_6 rfl hf (fun hf => ?_)
    refine j_icmp_ge (q := 12) 28 h dX4_set_9 (by decide) rfl hf (fun hf => ?_) (fun hf => ?_)
    · exact j_vret h dX4_set_28 hf
    · refine j_iload_n (q := 13) h dX4_set_12 rfl rfl ?_
      refine j_aload_n (q := 14) h dX4_set_13 rfl rfl ?_
      refine j_gR (q := 17) h uin_X4 rfl rfl (by decide) rfl fl_X4_19 dX4_set_14 rfl hf (fun b2 hf => ?_)
      refine j_alen (q := 18) h dX4_set_17 rfl hf (fun _ hf => ?_)
      refine j_icmp_ge (q := 21) 28 h dX4_set_18 (by decide) rfl hf (fun hf => ?_) (fun hf => ?_)
      · exact j_vret h dX4_set_28 hf
      · refine j_aload_n (q := 22) h dX4_set_21 rfl rfl ?_
        refine j_gR (q := 25) h uin_X4 rfl rfl (by decide) rfl fl_X4_19 dX4_set_22 rfl hf (fun b4 hf => ?_)
        refine j_iload_n (q := 26) h dX4_set_25 rfl rfl ?_
        refine j_iload_n (q := 27) h dX4_set_26 rfl rfl ?_
        refine j_iast (q := 28) h dX4_set_27 rfl hf (fun hf => ?_)
        exact j_vret h dX4_set_28 hf
theorem ct_X4_set (l : Launch) (D : va_G) (T : TT) {K : KT} {P : PT} {l0 : Nat} {l1 : Int32} {l2 : Int32} {V : VT} {res : Unit × VT} (hf : f_X4_set K P l0 l1 l2 V = some res) : CT l D T yX4_set cX4_set 3 none rm_X4_set K P V [.ref l0, .int l1, .int l2] none res.2 :=
  fun _ => CT_of pn_X4 (cat_a (cat_i (cat_i cat_0))) (Nat.le_of_ble_eq_true rfl) [some (.ref l0), some (.int l1), some (.int l2)] rfl (fun _ _ _ h => w_X4_set_0 h hf)
/-! QuotedLayers$Counting.nextDigits(LQuotedLayers$Row;I)Z -/
def rm_X0_nextDigits : Room := { frames := 1, cells := 0, slots := 0, locals := 22 }
theorem rf_X0_nextDigits_X4_at : RF rm_X4_at rm_X0_nextDigits 2 := ⟨⟨by decide, by decide⟩, rfl, rfl⟩
theorem rf_X0_nextDigits_X4_set : RF rm_X4_set rm_X0_nextDigits 3 := ⟨⟨by decide, by decide⟩, rfl, rfl⟩
theorem rf_X0_nextDigits_X4_size : RF rm_X4_size rm_X0_nextDigits 1 := ⟨⟨by decide, by decide⟩, rfl, rfl⟩
def f_X0_nextDigits_7 (K : KT) (P : PT) : Nat → Nat → Int32 → Int32 → VT → Option (Int32 × VT)
  | 0, _, _, _, _ => none
  | n + 1, l0, l1, l2, V => if l2 < 0 then (rB ((0 : Int32)) V) else (cV K l0 2 (f_X4_at K P l0 l2 V) fun x2 V1 => if (x2 + ((1 : Int32))) < l1 then (cV K l0 2 (f_X4_at K P l0 l2 V1) fun x6 V5 => cV K l0 2 (f_X4_set K P l0 l2 (x6 + ((1 : Int32))) V5) fun u8 V7 => rB ((1 : Int32)) V7) else (cV K l0 2 (f_X4_set K P l0 l2 ((0 : Int32)) V1) fun u4 V3 => (f_X0_nextDigits_7 K P n) l0 l1 (l2 + (-1 : Int32)) V3))
def f_X0_nextDigits (K : KT) (P : PT) (l0 : Nat) (l1 : Int32) (V : VT) : Option (Int32 × VT) :=
  cV K l0 2 (f_X4_size K P l0 V) fun x2 V1 => f_X0_nextDigits_7 K P FU l0 l1 (x2 - ((1 : Int32))) V1
set_option maxRecDepth 20000 in
theorem w_X0_nextDigits_7 {g : GT} {K : KT} {P : PT} {res : Int32 × VT} (h : OK g RX0 cX0_nextDigits 3 (some .boolean)) : ∀ (n : Nat) (l0 : Nat) (l1 : Int32) (l2 : Int32) (V : VT), f_X0_nextDigits_7 K P n l0 l1 l2 V = some res → J g rm_X0_nextDigits (QF g (some (.int res.1)) K P res.2 0 0) 3 K P V 0 0 7 [some (.ref l0), some (.int l1), some (.int l2)] [] := by
  intro n
  induction n with
  | zero => intro l0 l1 l2 V hf; rw [f_X0_nextDigits_7] at hf; cases hf
  | succ n ih =>
    intro l0 l1 l2 V hf
    rw [f_X0_nextDigits_7] at hf
    refine j_iload_n (q := 8) h dX0_nextDigits_7 rfl rfl ?_
    refine j_if_lt (q := 11) 48 h dX0_nextDigits_8 (by decide) rfl hf (fun hf => ?_) (fun hf => ?_)
    · refine j_iconst (q := 49) (0) h dX0_nextDigits_48 ki_0 rfl ?_
      exact j_zret h dX0_nextDigits_49 hf
    · refine j_aload_n (q := 12) h dX0_nextDigits_11 rfl rfl ?_
      refine j_iload_n (q := 13) h dX0_nextDigits_12 rfl rfl ?_
      refine j_cVi (q := 16) (As := [.int _]) h rfl hf (fun _ hx => ct_X4_at _ _ _ hx) ml_X0_13 vw_X4_at rf_X0_nextDigits_X4_at ⟨Nat.zero_le _, Nat.zero_le _⟩ (Nat.le_of_ble_eq_true rfl) dX0_nextDigits_13 rfl (fun _ _ hf => ?_)
      refine j_iconst (q := 17) (1) h dX0_nextDigits_16 ki_1 rfl ?_
      refine j_iadd (q := 18) h dX0_nextDigits_17 rfl ?_
      refine j_iload_n (q := 19) h dX0_nextDigits_18 rfl rfl ?_
      refine j_icmp_ge (q := 22) 36 h dX0_nextDigits_19 (by decide) rfl hf (fun hf => ?_) (fun hf => ?_)
      · refine j_aload_n (q := 37) h dX0_nextDigits_36 rfl rfl ?_
        refine j_iload_n (q := 38) h dX0_nextDigits_37 rfl rfl ?_
        refine j_iconst (q := 39) (0) h dX0_nextDigits_38 ki_0 rfl ?_
        refine j_cVv (q := 42) (As := [.int _, .int _]) h rfl hf (fun _ hx => ct_X4_set _ _ _ hx) ml_X0_17 vw_X4_set rf_X0_nextDigits_X4_set ⟨Nat.zero_le _, Nat.zero_le _⟩ (Nat.le_of_ble_eq_true rfl) dX0_nextDigits_39 rfl (fun _ _ hf => ?_)
        refine j_iinc (q := 45) _ [_, _, _] h dX0_nextDigits_42 rfl (by decide) rfl (kc_m1 _) rfl rfl ?_
        refine j_goto 7 h dX0_nextDigits_45 (by decide) ?_
        exact j_sub (lsub_s (lsub_s (lsub_s lsub_0))) (ih _ _ _ _ hf)
      · refine j_aload_n (q := 23) h dX0_nextDigits_22 rfl rfl ?_
        refine j_iload_n (q := 24) h dX0_nextDigits_23 rfl rfl ?_
        refine j_aload_n (q := 25) h dX0_nextDigits_24 rfl rfl ?_
        refine j_iload_n (q := 26) h dX0_nextDigits_25 rfl rfl ?_
        refine j_cVi (q := 29) (As := [.int _]) h rfl hf (fun _ hx => ct_X4_at _ _ _ hx) ml_X0_13 vw_X4_at rf_X0_nextDigits_X4_at ⟨Nat.zero_le _, Nat.zero_le _⟩ (Nat.le_of_ble_eq_true rfl) dX0_nextDigits_26 rfl (fun _ _ hf => ?_)
        refine j_iconst (q := 30) (1) h dX0_nextDigits_29 ki_1 rfl ?_
        refine j_iadd (q := 31) h dX0_nextDigits_30 rfl ?_
        refine j_cVv (q := 34) (As := [.int _, .int _]) h rfl hf (fun _ hx => ct_X4_set _ _ _ hx) ml_X0_17 vw_X4_set rf_X0_nextDigits_X4_set ⟨Nat.zero_le _, Nat.zero_le _⟩ (Nat.le_of_ble_eq_true rfl) dX0_nextDigits_31 rfl (fun _ _ hf => ?_)
        refine j_iconst (q := 35) (1) h dX0_nextDigits_34 ki_1 rfl ?_
        exact j_zret h dX0_nextDigits_35 hf
set_option maxRecDepth 20000 in
theorem w_X0_nextDigits_0 {g : GT} {K : KT} {P : PT} {res : Int32 × VT} (h : OK g RX0 cX0_nextDigits 3 (some .boolean)) {l0 : Nat} {l1 : Int32} {V : VT} (hf : f_X0_nextDigits K P l0 l1 V = some res) : J g rm_X0_nextDigits (QF g (some (.int res.1)) K P res.2 0 0) 3 K P V 0 0 0 [some (.ref l0), some (.int l1), none] [] := by
  rw [f_X0_nextDigits] at hf
  refine j_aload_n (q := 1) h dX0_nextDigits_0 rfl rfl ?_
  refine j_cVi (q := 4) (As := []) h rfl hf (fun _ hx => ct_X4_size _ _ _ hx) ml_X0_7 vw_X4_size rf_X0_nextDigits_X4_size ⟨Nat.zero_le _, Nat.zero_le _⟩ (Nat.le_of_ble_eq_true rfl) dX0_nextDigits_1 rfl (fun _ _ hf => ?_)
  refine j_iconst (q := 5) (1) h dX0_nextDigits_4 ki_1 rfl ?_
  refine j_isub (q := 6) h dX0_nextDigits_5 rfl ?_
  refine j_istore_n (q := 7) [_, _, _] h dX0_nextDigits_6 rfl (by decide) rfl rfl ?_
  exact j_sub (lsub_s (lsub_s (lsub_s lsub_0))) (w_X0_nextDigits_7 h FU _ _ _ _ hf)
theorem ct_X0_nextDigits (l : Launch) (D : va_G) (T : TT) {K : KT} {P : PT} {l0 : Nat} {l1 : Int32} {V : VT} {res : Int32 × VT} (hf : f_X0_nextDigits K P l0 l1 V = some res) : CT l D T yX0_nextDigits cX0_nextDigits 3 (some .boolean) rm_X0_nextDigits K P V [.ref l0, .int l1] (some (.int res.1)) res.2 :=
  fun _ => CT_of pn_X0 (cat_a (cat_i cat_0)) (Nat.le_of_ble_eq_true rfl) [some (.ref l0), some (.int l1), none] rfl (fun _ _ _ h => w_X0_nextDigits_0 h hf)
/-! QuotedLayers$Row.swap(II)V -/
def rm_X4_swap : Room := { frames := 1, cells := 0, slots := 0, locals := 22 }
theorem rf_X4_swap_X4_at : RF rm_X4_at rm_X4_swap 2 := ⟨⟨by decide, by decide⟩, rfl, rfl⟩
theorem rf_X4_swap_X4_set : RF rm_X4_set rm_X4_swap 3 := ⟨⟨by decide, by decide⟩, rfl, rfl⟩
def f_X4_swap (K : KT) (P : PT) (l0 : Nat) (l1 : Int32) (l2 : Int32) (V : VT) : Option (Unit × VT) :=
  cV K l0 2 (f_X4_at K P l0 l1 V) fun x2 V1 => cV K l0 2 (f_X4_at K P l0 l2 V1) fun x4 V3 => cV K l0 2 (f_X4_set K P l0 l1 x4 V3) fun u6 V5 => cV K l0 2 (f_X4_set K P l0 l2 x2 V5) fun u8 V7 => some ((), V7)
set_option maxRecDepth 20000 in
theorem w_X4_swap_0 {g : GT} {K : KT} {P : PT} {res : Unit × VT} (h : OK g RX4 cX4_swap 4 none) {l0 : Nat} {l1 : Int32} {l2 : Int32} {V : VT} (hf : f_X4_swap K P l0 l1 l2 V = some res) : J g rm_X4_swap (QF g none K P res.2 0 0) 4 K P V 0 0 0 [some (.ref l0), some (.int l1), some (.int l2), none] [] := by
  rw [f_X4_swap] at hf
  refine j_aload_n (q := 1) h dX4_swap_0 rfl rfl ?_
  refine j_iload_n (q := 2) h dX4_swap_1 rfl rfl ?_
  refine j_cVi (q := 5) (As := [.int _]) h rfl hf (fun _ hx => ct_X4_at _ _ _ hx) ml_X4_34 vw_X4_at rf_X4_swap_X4_at ⟨Nat.zero_le _, Nat.zero_le _⟩ (Nat.le_of_ble_eq_true rfl) dX4_swap_2 rfl (fun _ _ hf => ?_)
  refine j_istore_n (q := 6) [_, _, _, _] h dX4_swap_5 rfl (by decide) rfl rfl ?_
  refine j_aload_n (q := 7) h dX4_swap_6 rfl rfl ?_
  refine j_iload_n (q := 8) h dX4_swap_7 rfl rfl ?_
  refine j_aload_n (q := 9) h dX4_swap_8 rfl rfl ?_
  refine j_iload_n (q := 10) h dX4_swap_9 rfl rfl ?_
  refine j_cVi (q := 13) (As := [.int _]) h rfl hf (fun _ hx => ct_X4_at _ _ _ hx) ml_X4_34 vw_X4_at rf_X4_swap_X4_at ⟨Nat.zero_le _, Nat.zero_le _⟩ (Nat.le_of_ble_eq_true rfl) dX4_swap_10 rfl (fun _ _ hf => ?_)
  refine j_cVv (q := 16) (As := [.int _, .int _]) h rfl hf (fun _ hx => ct_X4_set _ _ _ hx) ml_X4_42 vw_X4_set rf_X4_swap_X4_set ⟨Nat.zero_le _, Nat.zero_le _⟩ (Nat.le_of_ble_eq_true rfl) dX4_swap_13 rfl (fun _ _ hf => ?_)
  refine j_aload_n (q := 17) h dX4_swap_16 rfl rfl ?_
  refine j_iload_n (q := 18) h dX4_swap_17 rfl rfl ?_
  refine j_iload_n (q := 19) h dX4_swap_18 rfl rfl ?_
  refine j_cVv (q := 22) (As := [.int _, .int _]) h rfl hf (fun _ hx => ct_X4_set _ _ _ hx) ml_X4_42 vw_X4_set rf_X4_swap_X4_set ⟨Nat.zero_le _, Nat.zero_le _⟩ (Nat.le_of_ble_eq_true rfl) dX4_swap_19 rfl (fun _ _ hf => ?_)
  exact j_vret h dX4_swap_22 hf
theorem ct_X4_swap (l : Launch) (D : va_G) (T : TT) {K : KT} {P : PT} {l0 : Nat} {l1 : Int32} {l2 : Int32} {V : VT} {res : Unit × VT} (hf : f_X4_swap K P l0 l1 l2 V = some res) : CT l D T yX4_swap cX4_swap 4 none rm_X4_swap K P V [.ref l0, .int l1, .int l2] none res.2 :=
  fun _ => CT_of pn_X4 (cat_a (cat_i (cat_i cat_0))) (Nat.le_of_ble_eq_true rfl) [some (.ref l0), some (.int l1), some (.int l2), none] rfl (fun _ _ _ h => w_X4_swap_0 h hf)
/-! QuotedLayers$Counting.reverseFrom(LQuotedLayers$Row;I)V -/
def rm_X0_reverseFrom : Room := { frames := 2, cells := 0, slots := 0, locals := 45 }
theorem rf_X0_reverseFrom_X4_size : RF rm_X4_size rm_X0_reverseFrom 1 := ⟨⟨by decide, by decide⟩, rfl, rfl⟩
theorem rf_X0_reverseFrom_X4_swap : RF rm_X4_swap rm_X0_reverseFrom 4 := ⟨⟨by decide, by decide⟩, rfl, rfl⟩
def f_X0_reverseFrom_9 (K : KT) (P : PT) : Nat → Nat → Int32 → Int32 → VT → Option (Unit × VT)
  | 0, _, _, _, _ => none
  | n + 1, l0, l2, l3, V => if l2 < l3 then (cV K l0 2 (f_X4_swap K P l0 l2 l3 V) fun u2 V1 => (f_X0_reverseFrom_9 K P n) l0 (l2 + (1 : Int32)) (l3 + (-1 : Int32)) V1) else (some ((), V))
def f_X0_reverseFrom (K : KT) (P : PT) (l0 : Nat) (l1 : Int32) (V : VT) : Option (Unit × VT) :=
  cV K l0 2 (f_X4_size K P l0 V) fun x2 V1 => f_X0_reverseFrom_9 K P FU l0 l1 (x2 - ((1 : Int32))) V1
set_option maxRecDepth 20000 in
theorem w_X0_reverseFrom_9 {g : GT} {K : KT} {P : PT} {res : Unit × VT} (h : OK g RX0 cX0_reverseFrom 4 none) : ∀ (n : Nat) (l0 : Nat) (l2 : Int32) (l3 : Int32) (V : VT), f_X0_reverseFrom_9 K P n l0 l2 l3 V = some res → J g rm_X0_reverseFrom (QF g none K P res.2 0 0) 4 K P V 0 0 9 [some (.ref l0), none, some (.int l2), some (.int l3)] [] := by
  intro n
  induction n with
  | zero => intro l0 l2 l3 V hf; rw [f_X0_reverseFrom_9] at hf; cases hf
  | succ n ih =>
    intro l0 l2 l3 V hf
    rw [f_X0_reverseFrom_9] at hf
    refine j_iload_n (q := 10) h dX0_reverseFrom_9 rfl rfl ?_
    refine j_iload_n (q := 11) h dX0_reverseFrom_10 rfl rfl ?_
    refine j_icmp_ge (q := 14) 29 h dX0_reverseFrom_11 (by decide) rfl hf (fun hf => ?_) (fun hf => ?_)
    · exact j_vret h dX0_reverseFrom_29 hf
    · refine j_aload_n (q := 15) h dX0_reverseFrom_14 rfl rfl ?_
      refine j_iload_n (q := 16) h dX0_reverseFrom_15 rfl rfl ?_
      refine j_iload_n (q := 17) h dX0_reverseFrom_16 rfl rfl ?_
      refine j_cVv (q := 20) (As := [.int _, .int _]) h rfl hf (fun _ hx => ct_X4_swap _ _ _ hx) ml_X0_21 vw_X4_swap rf_X0_reverseFrom_X4_swap ⟨Nat.zero_le _, Nat.zero_le _⟩ (Nat.le_of_ble_eq_true rfl) dX0_reverseFrom_17 rfl (fun _ _ hf => ?_)
      refine j_iinc (q := 23) _ [_, _, _, _] h dX0_reverseFrom_20 rfl (by decide) rfl (kc_1 _) rfl rfl ?_
      refine j_iinc (q := 26) _ [_, _, _, _] h dX0_reverseFrom_23 rfl (by decide) rfl (kc_m1 _) rfl rfl ?_
      refine j_goto 9 h dX0_reverseFrom_26 (by decide) ?_
      exact j_sub (lsub_s (lsub_n (lsub_s (lsub_s lsub_0)))) (ih _ _ _ _ hf)
set_option maxRecDepth 20000 in
theorem w_X0_reverseFrom_0 {g : GT} {K : KT} {P : PT} {res : Unit × VT} (h : OK g RX0 cX0_reverseFrom 4 none) {l0 : Nat} {l1 : Int32} {V : VT} (hf : f_X0_reverseFrom K P l0 l1 V = some res) : J g rm_X0_reverseFrom (QF g none K P res.2 0 0) 4 K P V 0 0 0 [some (.ref l0), some (.int l1), none, none] [] := by
  rw [f_X0_reverseFrom] at hf
  refine j_iload_n (q := 1) h dX0_reverseFrom_0 rfl rfl ?_
  refine j_istore_n (q := 2) [_, _, _, _] h dX0_reverseFrom_1 rfl (by decide) rfl rfl ?_
  refine j_aload_n (q := 3) h dX0_reverseFrom_2 rfl rfl ?_
  refine j_cVi (q := 6) (As := []) h rfl hf (fun _ hx => ct_X4_size _ _ _ hx) ml_X0_7 vw_X4_size rf_X0_reverseFrom_X4_size ⟨Nat.zero_le _, Nat.zero_le _⟩ (Nat.le_of_ble_eq_true rfl) dX0_reverseFrom_3 rfl (fun _ _ hf => ?_)
  refine j_iconst (q := 7) (1) h dX0_reverseFrom_6 ki_1 rfl ?_
  refine j_isub (q := 8) h dX0_reverseFrom_7 rfl ?_
  refine j_istore_n (q := 9) [_, _, _, _] h dX0_reverseFrom_8 rfl (by decide) rfl rfl ?_
  exact j_sub (lsub_s (lsub_n (lsub_s (lsub_s lsub_0)))) (w_X0_reverseFrom_9 h FU _ _ _ _ hf)
theorem ct_X0_reverseFrom (l : Launch) (D : va_G) (T : TT) {K : KT} {P : PT} {l0 : Nat} {l1 : Int32} {V : VT} {res : Unit × VT} (hf : f_X0_reverseFrom K P l0 l1 V = some res) : CT l D T yX0_reverseFrom cX0_reverseFrom 4 none rm_X0_reverseFrom K P V [.ref l0, .int l1] none res.2 :=
  fun _ => CT_of pn_X0 (cat_a (cat_i cat_0)) (Nat.le_of_ble_eq_true rfl) [some (.ref l0), some (.int l1), none, none] rfl (fun _ _ _ h => w_X0_reverseFrom_0 h hf)
/-! QuotedLayers$Counting.nextOrder(LQuotedLayers$Row;)Z -/
def rm_X0_nextOrder : Room := { frames := 3, cells := 0, slots := 0, locals := 68 }
theorem rf_X0_nextOrder_X0_reverseFrom : RF rm_X0_reverseFrom rm_X0_nextOrder 4 := ⟨⟨by decide, by decide⟩, rfl, rfl⟩
theorem rf_X0_nextOrder_X4_at : RF rm_X4_at rm_X0_nextOrder 2 := ⟨⟨by decide, by decide⟩, rfl, rfl⟩
theorem rf_X0_nextOrder_X4_size : RF rm_X4_size rm_X0_nextOrder 1 := ⟨⟨by decide, by decide⟩, rfl, rfl⟩
theorem rf_X0_nextOrder_X4_swap : RF rm_X4_swap rm_X0_nextOrder 4 := ⟨⟨by decide, by decide⟩, rfl, rfl⟩
def f_X0_nextOrder_69 (K : KT) (P : PT) (l0 : Nat) (l1 : Int32) (l2 : Int32) (V : VT) : Option (Int32 × VT) :=
  cV K l0 2 (f_X4_swap K P l0 l1 l2 V) fun u2 V1 => cS (f_X0_reverseFrom K P l0 (l1 + ((1 : Int32))) V1) fun u4 V3 => rB ((1 : Int32)) V3
def f_X0_nextOrder_45 (K : KT) (P : PT) : Nat → Nat → Int32 → Int32 → VT → Option (Int32 × VT)
  | 0, _, _, _, _ => none
  | n + 1, l0, l1, l2, V => if l1 < l2 then (cV K l0 2 (f_X4_at K P l0 l2 V) fun x2 V1 => cV K l0 2 (f_X4_at K P l0 l1 V1) fun x4 V3 => if x4 < x2 then (f_X0_nextOrder_69 K P l0 l1 l2 V3) else ((f_X0_nextOrder_45 K P n) l0 l1 (l2 + (-1 : Int32)) V3)) else (f_X0_nextOrder_69 K P l0 l1 l2 V)
def f_X0_nextOrder_32 (K : KT) (P : PT) (l0 : Nat) (l1 : Int32) (V : VT) : Option (Int32 × VT) :=
  if l1 < 0 then (rB ((0 : Int32)) V) else (cV K l0 2 (f_X4_size K P l0 V) fun x2 V1 => f_X0_nextOrder_45 K P FU l0 l1 (x2 - ((1 : Int32))) V1)
def f_X0_nextOrder_7 (K : KT) (P : PT) : Nat → Nat → Int32 → VT → Option (Int32 × VT)
  | 0, _, _, _ => none
  | n + 1, l0, l1, V => if l1 < 0 then (f_X0_nextOrder_32 K P l0 l1 V) else (cV K l0 2 (f_X4_at K P l0 l1 V) fun x2 V1 => cV K l0 2 (f_X4_at K P l0 (l1 + ((1 : Int32))) V1) fun x4 V3 => if x2 < x4 then (f_X0_nextOrder_32 K P l0 l1 V3) else ((f_X0_nextOrder_7 K P n) l0 (l1 + (-1 : Int32)) V3))
def f_X0_nextOrder (K : KT) (P : PT) (l0 : Nat) (V : VT) : Option (Int32 × VT) :=
  cV K l0 2 (f_X4_size K P l0 V) fun x2 V1 => f_X0_nextOrder_7 K P FU l0 (x2 - ((2 : Int32))) V1
set_option maxRecDepth 20000 in
theorem w_X0_nextOrder_69 {g : GT} {K : KT} {P : PT} {res : Int32 × VT} (h : OK g RX0 cX0_nextOrder 3 (some .boolean)) {l0 : Nat} {l1 : Int32} {l2 : Int32} {V : VT} (hf : f_X0_nextOrder_69 K P l0 l1 l2 V = some res) : J g rm_X0_nextOrder (QF g (some (.int res.1)) K P res.2 0 0) 3 K P V 0 0 69 [some (.ref l0), some (.int l1), some (.int l2)] [] := by
  rw [f_X0_nextOrder_69] at hf
  refine j_aload_n (q := 70) h dX0_nextOrder_69 rfl rfl ?_
  refine j_iload_n (q := 71) h dX0_nextOrder_70 rfl rfl ?_
  refine j_iload_n (q := 72) h dX0_nextOrder_71 rfl rfl ?_
  refine j_cVv (q := 75) (As := [.int _, .int _]) h rfl hf (fun _ hx => ct_X4_swap _ _ _ hx) ml_X0_21 vw_X4_swap rf_X0_nextOrder_X4_swap ⟨Nat.zero_le _, Nat.zero_le _⟩ (Nat.le_of_ble_eq_true rfl) dX0_nextOrder_72 rfl (fun _ _ hf => ?_)
  refine j_aload_n (q := 76) h dX0_nextOrder_75 rfl rfl ?_
  refine j_iload_n (q := 77) h dX0_nextOrder_76 rfl rfl ?_
  refine j_iconst (q := 78) (1) h dX0_nextOrder_77 ki_1 rfl ?_
  refine j_iadd (q := 79) h dX0_nextOrder_78 rfl ?_
  refine j_cSv (q := 82) (As := [.ref _, .int _]) h rfl hf (fun _ hx => ct_X0_reverseFrom _ _ _ hx) ml_X0_24 sw_X0_reverseFrom rf_X0_nextOrder_X0_reverseFrom ⟨Nat.zero_le _, Nat.zero_le _⟩ (Nat.le_of_ble_eq_true rfl) dX0_nextOrder_79 rfl (fun _ _ hf => ?_)
  refine j_iconst (q := 83) (1) h dX0_nextOrder_82 ki_1 rfl ?_
  exact j_zret h dX0_nextOrder_83 hf
set_option maxRecDepth 20000 in
theorem w_X0_nextOrder_45 {g : GT} {K : KT} {P : PT} {res : Int32 × VT} (h : OK g RX0 cX0_nextOrder 3 (some .boolean)) : ∀ (n : Nat) (l0 : Nat) (l1 : Int32) (l2 : Int32) (V : VT), f_X0_nextOrder_45 K P n l0 l1 l2 V = some res → J g rm_X0_nextOrder (QF g (some (.int res.1)) K P res.2 0 0) 3 K P V 0 0 45 [some (.ref l0), some (.int l1), some (.int l2)] [] := by
  intro n
  induction n with
  | zero => intro l0 l1 l2 V hf; rw [f_X0_nextOrder_45] at hf; cases hf
  | succ n ih =>
    intro l0 l1 l2 V hf
    rw [f_X0_nextOrder_45] at hf
    refine j_iload_n (q := 46) h dX0_nextOrder_45 rfl rfl ?_
    refine j_iload_n (q := 47) h dX0_nextOrder_46 rfl rfl ?_
    refine j_icmp_le (q := 50) 69 h dX0_nextOrder_47 (by decide) rfl hf (fun hf => ?_) (fun hf => ?_)
    · exact j_sub (lsub_s (lsub_s (lsub_s lsub_0))) (w_X0_nextOrder_69 h hf)
    · refine j_aload_n (q := 51) h dX0_nextOrder_50 rfl rfl ?_
      refine j_iload_n (q := 52) h dX0_nextOrder_51 rfl rfl ?_
      refine j_cVi (q := 55) (As := [.int _]) h rfl hf (fun _ hx => ct_X4_at _ _ _ hx) ml_X0_13 vw_X4_at rf_X0_nextOrder_X4_at ⟨Nat.zero_le _, Nat.zero_le _⟩ (Nat.le_of_ble_eq_true rfl) dX0_nextOrder_52 rfl (fun _ _ hf => ?_)
      refine j_aload_n (q := 56) h dX0_nextOrder_55 rfl rfl ?_
      refine j_iload_n (q := 57) h dX0_nextOrder_56 rfl rfl ?_
      refine j_cVi (q := 60) (As := [.int _]) h rfl hf (fun _ hx => ct_X4_at _ _ _ hx) ml_X0_13 vw_X4_at rf_X0_nextOrder_X4_at ⟨Nat.zero_le _, Nat.zero_le _⟩ (Nat.le_of_ble_eq_true rfl) dX0_nextOrder_57 rfl (fun _ _ hf => ?_)
      refine j_icmp_gt (q := 63) 69 h dX0_nextOrder_60 (by decide) rfl hf (fun hf => ?_) (fun hf => ?_)
      · exact j_sub (lsub_s (lsub_s (lsub_s lsub_0))) (w_X0_nextOrder_69 h hf)
      · refine j_iinc (q := 66) _ [_, _, _] h dX0_nextOrder_63 rfl (by decide) rfl (kc_m1 _) rfl rfl ?_
        refine j_goto 45 h dX0_nextOrder_66 (by decide) ?_
        exact j_sub (lsub_s (lsub_s (lsub_s lsub_0))) (ih _ _ _ _ hf)
set_option maxRecDepth 20000 in
theorem w_X0_nextOrder_32 {g : GT} {K : KT} {P : PT} {res : Int32 × VT} (h : OK g RX0 cX0_nextOrder 3 (some .boolean)) {l0 : Nat} {l1 : Int32} {V : VT} (hf : f_X0_nextOrder_32 K P l0 l1 V = some res) : J g rm_X0_nextOrder (QF g (some (.int res.1)) K P res.2 0 0) 3 K P V 0 0 32 [some (.ref l0), some (.int l1), none] [] := by
  rw [f_X0_nextOrder_32] at hf
  refine j_iload_n (q := 33) h dX0_nextOrder_32 rfl rfl ?_
  refine j_if_ge (q := 36) 38 h dX0_nextOrder_33 (by decide) rfl hf (fun hf => ?_) (fun hf => ?_)
  · refine j_aload_n (q := 39) h dX0_nextOrder_38 rfl rfl ?_
    refine j_cVi (q := 42) (As := []) h rfl hf (fun _ hx => ct_X4_size _ _ _ hx) ml_X0_7 vw_X4_size rf_X0_nextOrder_X4_size ⟨Nat.zero_le _, Nat.zero_le _⟩ (Nat.le_of_ble_eq_true rfl) dX0_nextOrder_39 rfl (fun _ _ hf => ?_)
    refine j_iconst (q := 43) (1) h dX0_nextOrder_42 ki_1 rfl ?_
    refine j_isub (q := 44) h dX0_nextOrder_43 rfl ?_
    refine j_istore_n (q := 45) [_, _, _] h dX0_nextOrder_44 rfl (by decide) rfl rfl ?_
    exact j_sub (lsub_s (lsub_s (lsub_s lsub_0))) (w_X0_nextOrder_45 h FU _ _ _ _ hf)
  · refine j_iconst (q := 37) (0) h dX0_nextOrder_36 ki_0 rfl ?_
    exact j_zret h dX0_nextOrder_37 hf
set_option maxRecDepth 20000 in
theorem w_X0_nextOrder_7 {g : GT} {K : KT} {P : PT} {res : Int32 × VT} (h : OK g RX0 cX0_nextOrder 3 (some .boolean)) : ∀ (n : Nat) (l0 : Nat) (l1 : Int32) (V : VT), f_X0_nextOrder_7 K P n l0 l1 V = some res → J g rm_X0_nextOrder (QF g (some (.int res.1)) K P res.2 0 0) 3 K P V 0 0 7 [some (.ref l0), some (.int l1), none] [] := by
  intro n
  induction n with
  | zero => intro l0 l1 V hf; rw [f_X0_nextOrder_7] at hf; cases hf
  | succ n ih =>
    intro l0 l1 V hf
    rw [f_X0_nextOrder_7] at hf
    refine j_iload_n (q := 8) h dX0_nextOrder_7 rfl rfl ?_
    refine j_if_lt (q := 11) 32 h dX0_nextOrder_8 (by decide) rfl hf (fun hf => ?_) (fun hf => ?_)
    · exact j_sub (lsub_s (lsub_s (lsub_n lsub_0))) (w_X0_nextOrder_32 h hf)
    · refine j_aload_n (q := 12) h dX0_nextOrder_11 rfl rfl ?_
      refine j_iload_n (q := 13) h dX0_nextOrder_12 rfl rfl ?_
      refine j_cVi (q := 16) (As := [.int _]) h rfl hf (fun _ hx => ct_X4_at _ _ _ hx) ml_X0_13 vw_X4_at rf_X0_nextOrder_X4_at ⟨Nat.zero_le _, Nat.zero_le _⟩ (Nat.le_of_ble_eq_true rfl) dX0_nextOrder_13 rfl (fun _ _ hf => ?_)
      refine j_aload_n (q := 17) h dX0_nextOrder_16 rfl rfl ?_
      refine j_iload_n (q := 18) h dX0_nextOrder_17 rfl rfl ?_
      refine j_iconst (q := 19) (1) h dX0_nextOrder_18 ki_1 rfl ?_
      refine j_iadd (q := 20) h dX0_nextOrder_19 rfl ?_
      refine j_cVi (q := 23) (As := [.int _]) h rfl hf (fun _ hx => ct_X4_at _ _ _ hx) ml_X0_13 vw_X4_at rf_X0_nextOrder_X4_at ⟨Nat.zero_le _, Nat.zero_le _⟩ (Nat.le_of_ble_eq_true rfl) dX0_nextOrder_20 rfl (fun _ _ hf => ?_)
      refine j_icmp_lt (q := 26) 32 h dX0_nextOrder_23 (by decide) rfl hf (fun hf => ?_) (fun hf => ?_)
      · exact j_sub (lsub_s (lsub_s (lsub_n lsub_0))) (w_X0_nextOrder_32 h hf)
      · refine j_iinc (q := 29) _ [_, _, _] h dX0_nextOrder_26 rfl (by decide) rfl (kc_m1 _) rfl rfl ?_
        refine j_goto 7 h dX0_nextOrder_29 (by decide) ?_
        exact j_sub (lsub_s (lsub_s (lsub_n lsub_0))) (ih _ _ _ hf)
set_option maxRecDepth 20000 in
theorem w_X0_nextOrder_0 {g : GT} {K : KT} {P : PT} {res : Int32 × VT} (h : OK g RX0 cX0_nextOrder 3 (some .boolean)) {l0 : Nat} {V : VT} (hf : f_X0_nextOrder K P l0 V = some res) : J g rm_X0_nextOrder (QF g (some (.int res.1)) K P res.2 0 0) 3 K P V 0 0 0 [some (.ref l0), none, none] [] := by
  rw [f_X0_nextOrder] at hf
  refine j_aload_n (q := 1) h dX0_nextOrder_0 rfl rfl ?_
  refine j_cVi (q := 4) (As := []) h rfl hf (fun _ hx => ct_X4_size _ _ _ hx) ml_X0_7 vw_X4_size rf_X0_nextOrder_X4_size ⟨Nat.zero_le _, Nat.zero_le _⟩ (Nat.le_of_ble_eq_true rfl) dX0_nextOrder_1 rfl (fun _ _ hf => ?_)
  refine j_iconst (q := 5) (2) h dX0_nextOrder_4 ki_2 rfl ?_
  refine j_isub (q := 6) h dX0_nextOrder_5 rfl ?_
  refine j_istore_n (q := 7) [_, _, _] h dX0_nextOrder_6 rfl (by decide) rfl rfl ?_
  exact j_sub (lsub_s (lsub_s (lsub_n lsub_0))) (w_X0_nextOrder_7 h FU _ _ _ hf)
theorem ct_X0_nextOrder (l : Launch) (D : va_G) (T : TT) {K : KT} {P : PT} {l0 : Nat} {V : VT} {res : Int32 × VT} (hf : f_X0_nextOrder K P l0 V = some res) : CT l D T yX0_nextOrder cX0_nextOrder 3 (some .boolean) rm_X0_nextOrder K P V [.ref l0] (some (.int res.1)) res.2 :=
  fun _ => CT_of pn_X0 (cat_a cat_0) (Nat.le_of_ble_eq_true rfl) [some (.ref l0), none, none] rfl (fun _ _ _ h => w_X0_nextOrder_0 h hf)
/-! QuotedLayers$Layer.hasMask(I)Z -/
def rm_X1_hasMask : Room := { frames := 0, cells := 0, slots := 0, locals := 0 }
def f_X1_hasMask_10 (K : KT) (P : PT)  (V : VT) : Option (Int32 × VT) :=
  rB ((1 : Int32)) V
def f_X1_hasMask (K : KT) (P : PT) (l0 : Int32) (V : VT) : Option (Int32 × VT) :=
  if l0 = ((1 : Int32)) then (f_X1_hasMask_10 K P V) else (if l0 = ((3 : Int32)) then (f_X1_hasMask_10 K P V) else (rB ((0 : Int32)) V))
set_option maxRecDepth 20000 in
theorem w_X1_hasMask_10 {g : GT} {K : KT} {P : PT} {res : Int32 × VT} (h : OK g RX1 cX1_hasMask 1 (some .boolean))  {V : VT} (hf : f_X1_hasMask_10 K P  V = some res) : J g rm_X1_hasMask (QF g (some (.int res.1)) K P res.2 0 0) 1 K P V 0 0 10 [none] [] := by
  rw [f_X1_hasMask_10] at hf
  refine j_iconst (q := 11) (1) h dX1_hasMask_10 ki_1 rfl ?_
  refine j_goto 15 h dX1_hasMask_11 (by decide) ?_
  exact j_zret h dX1_hasMask_15 hf
set_option maxRecDepth 20000 in
theorem w_X1_hasMask_0 {g : GT} {K : KT} {P : PT} {res : Int32 × VT} (h : OK g RX1 cX1_hasMask 1 (some .boolean)) {l0 : Int32} {V : VT} (hf : f_X1_hasMask K P l0 V = some res) : J g rm_X1_hasMask (QF g (some (.int res.1)) K P res.2 0 0) 1 K P V 0 0 0 [some (.int l0)] [] := by
  rw [f_X1_hasMask] at hf
  refine j_iload_n (q := 1) h dX1_hasMask_0 rfl rfl ?_
  refine j_iconst (q := 2) (1) h dX1_hasMask_1 ki_1 rfl ?_
  refine j_icmp_eq (q := 5) 10 h dX1_hasMask_2 (by decide) rfl hf (fun hf => ?_) (fun hf => ?_)
  · exact j_sub (lsub_n lsub_0) (w_X1_hasMask_10 h hf)
  · refine j_iload_n (q := 6) h dX1_hasMask_5 rfl rfl ?_
    refine j_iconst (q := 7) (3) h dX1_hasMask_6 ki_3 rfl ?_
    refine j_icmp_ne (q := 10) 14 h dX1_hasMask_7 (by decide) rfl hf (fun hf => ?_) (fun hf => ?_)
    · refine j_iconst (q := 15) (0) h dX1_hasMask_14 ki_0 rfl ?_
      exact j_zret h dX1_hasMask_15 hf
    · exact j_sub (lsub_n lsub_0) (w_X1_hasMask_10 h hf)
theorem ct_X1_hasMask (l : Launch) (D : va_G) (T : TT) {K : KT} {P : PT} {l0 : Int32} {V : VT} {res : Int32 × VT} (hf : f_X1_hasMask K P l0 V = some res) : CT l D T yX1_hasMask cX1_hasMask 1 (some .boolean) rm_X1_hasMask K P V [.int l0] (some (.int res.1)) res.2 :=
  fun _ => CT_of pn_X1 (cat_i cat_0) (Nat.le_of_ble_eq_true rfl) [some (.int l0)] rfl (fun _ _ _ h => w_X1_hasMask_0 h hf)
/-! QuotedLayers$Row.clear()V -/
def rm_X4_clear : Room := { frames := 0, cells := 0, slots := 0, locals := 0 }
def f_X4_clear (K : KT) (P : PT) (l0 : Nat) (V : VT) : Option (Unit × VT) :=
  sI K V l0 2 1 ((0 : Int32)) fun V1 => sB K V1 l0 2 2 ((0 : Int32)) fun V2 => some ((), V2)
set_option maxRecDepth 20000 in
theorem w_X4_clear_0 {g : GT} {K : KT} {P : PT} {res : Unit × VT} (h : OK g RX4 cX4_clear 1 none) {l0 : Nat} {V : VT} (hf : f_X4_clear K P l0 V = some res) : J g rm_X4_clear (QF g none K P res.2 0 0) 1 K P V 0 0 0 [some (.ref l0)] [] := by
  rw [f_X4_clear] at hf
  refine j_aload_n (q := 1) h dX4_clear_0 rfl rfl ?_
  refine j_iconst (q := 2) (0) h dX4_clear_1 ki_0 rfl ?_
  refine j_sI (q := 5) h tyX4 tyX4_ok nmX4 uin_X4 rfl rfl (by decide) rfl rfl (by decide +kernel) fl_X4_9 dX4_clear_2 rfl hf (fun hf => ?_)
  refine j_aload_n (q := 6) h dX4_clear_5 rfl rfl ?_
  refine j_iconst (q := 7) (0) h dX4_clear_6 ki_0 rfl ?_
  refine j_sB (q := 10) h tyX4 tyX4_ok nmX4 uin_X4 rfl rfl (by decide) rfl rfl (by decide +kernel) fl_X4_15 dX4_clear_7 rfl hf (fun hf => ?_)
  exact j_vret h dX4_clear_10 hf
theorem ct_X4_clear (l : Launch) (D : va_G) (T : TT) {K : KT} {P : PT} {l0 : Nat} {V : VT} {res : Unit × VT} (hf : f_X4_clear K P l0 V = some res) : CT l D T yX4_clear cX4_clear 1 none rm_X4_clear K P V [.ref l0] none res.2 :=
  fun _ => CT_of pn_X4 (cat_a cat_0) (Nat.le_of_ble_eq_true rfl) [some (.ref l0)] rfl (fun _ _ _ h => w_X4_clear_0 h hf)
/-! QuotedLayers$LayerText.firstHeld(I)I -/
def rm_X2_firstHeld : Room := { frames := 1, cells := 0, slots := 0, locals := 20 }
theorem rf_X2_firstHeld_X1_hasMask : RF rm_X1_hasMask rm_X2_firstHeld 1 := ⟨⟨by decide, by decide⟩, rfl, rfl⟩
def f_X2_firstHeld (K : KT) (P : PT) (l0 : Int32) (V : VT) : Option (Int32 × VT) :=
  cS (f_X1_hasMask K P l0 V) fun x2 V1 => if x2 = 0 then (some ((2 : Int32), V1)) else (some ((3 : Int32), V1))
set_option maxRecDepth 20000 in
theorem w_X2_firstHeld_0 {g : GT} {K : KT} {P : PT} {res : Int32 × VT} (h : OK g RX2 cX2_firstHeld 1 (some .int)) {l0 : Int32} {V : VT} (hf : f_X2_firstHeld K P l0 V = some res) : J g rm_X2_firstHeld (QF g (some (.int res.1)) K P res.2 0 0) 1 K P V 0 0 0 [some (.int l0)] [] := by
  rw [f_X2_firstHeld] at hf
  refine j_iload_n (q := 1) h dX2_firstHeld_0 rfl rfl ?_
  refine j_cSi (q := 4) (As := [.int _]) h rfl hf (fun _ hx => ct_X1_hasMask _ _ _ hx) ml_X2_25 sw_X1_hasMask rf_X2_firstHeld_X1_hasMask ⟨Nat.zero_le _, Nat.zero_le _⟩ (Nat.le_of_ble_eq_true rfl) dX2_firstHeld_1 rfl (fun _ _ hf => ?_)
  refine j_if_eq (q := 7) 11 h dX2_firstHeld_4 (by decide) rfl hf (fun hf => ?_) (fun hf => ?_)
  · refine j_iconst (q := 12) (2) h dX2_firstHeld_11 ki_2 rfl ?_
    exact j_iret h dX2_firstHeld_12 hf
  · refine j_iconst (q := 8) (3) h dX2_firstHeld_7 ki_3 rfl ?_
    refine j_goto 12 h dX2_firstHeld_8 (by decide) ?_
    exact j_iret h dX2_firstHeld_12 hf
theorem ct_X2_firstHeld (l : Launch) (D : va_G) (T : TT) {K : KT} {P : PT} {l0 : Int32} {V : VT} {res : Int32 × VT} (hf : f_X2_firstHeld K P l0 V = some res) : CT l D T yX2_firstHeld cX2_firstHeld 1 (some .int) rm_X2_firstHeld K P V [.int l0] (some (.int res.1)) res.2 :=
  fun _ => CT_of pn_X2 (cat_i cat_0) (Nat.le_of_ble_eq_true rfl) [some (.int l0)] rfl (fun _ _ _ h => w_X2_firstHeld_0 h hf)
/-! QuotedLayers$Row.add(I)V -/
def rm_X4_add : Room := { frames := 0, cells := 0, slots := 0, locals := 0 }
def f_X4_add (K : KT) (P : PT) (l0 : Nat) (l1 : Int32) (V : VT) : Option (Unit × VT) :=
  gI K V l0 2 1 fun x1 => if x1 < 0 then (sB K V l0 2 2 ((1 : Int32)) fun V2 => some ((), V2)) else (gI K V l0 2 1 fun x3 => gR K P l0 2 0 fun b4 => aN K b4 fun x5 => if x3 < x5 then (gR K P l0 2 0 fun b7 => gI K V l0 2 1 fun x8 => sA K V b7 x8 l1 fun V9 => gI K V9 l0 2 1 fun x10 => sI K V9 l0 2 1 (x10 + ((1 : Int32))) fun V11 => some ((), V11)) else (sB K V l0 2 2 ((1 : Int32)) fun V6 => some ((), V6)))
set_option maxRecDepth 20000 in
theorem w_X4_add_0 {g : GT} {K : KT} {P : PT} {res : Unit × VT} (h : OK g RX4 cX4_add 2 none) {l0 : Nat} {l1 : Int32} {V : VT} (hf : f_X4_add K P l0 l1 V = some res) : J g rm_X4_add (QF g none K P res.2 0 0) 2 K P V 0 0 0 [some (.ref l0), some (.int l1)] [] := by
  rw [f_X4_add] at hf
  refine j_aload_n (q := 1) h dX4_add_0 rfl rfl ?_
  refine j_gI (q := 4) h uin_X4 rfl rfl (by decide) rfl fl_X4_9 dX4_add_1 rfl hf (fun hf => ?_)
  refine j_if_lt (q := 7) 42 h dX4_add_4 (by decide) rfl hf (fun hf => ?_) (fun hf => ?_)
  · refine j_aload_n (q := 43) h dX4_add_42 rfl rfl ?_
    refine j_iconst (q := 44) (1) h dX4_add_43 ki_1 rfl ?_
    refine j_sB (q := 47) h tyX4 tyX4_ok nmX4 uin_X4 rfl rfl (by decide) rfl rfl (by decide +kernel) fl_X4_15 dX4_add_44 rfl hf (fun hf => ?_)
    exact j_vret h dX4_add_47 hf
  · refine j_aload_n (q := 8) h dX4_add_7 rfl rfl ?_
    refine j_gI (q := 11) h uin_X4 rfl rfl (by decide) rfl fl_X4_9 dX4_add_8 rfl hf (fun hf => ?_)
    refine j_aload_n (q := 12) h dX4_add_11 rfl rfl ?_
    refine j_gR (q := 15) h uin_X4 rfl rfl (by decide) rfl fl_X4_19 dX4_add_12 rfl hf (fun b4 hf => ?_)
    refine j_alen (q := 16) h dX4_add_15 rfl hf (fun _ hf => ?_)
    refine j_icmp_ge (q := 19) 42 h dX4_add_16 (by decide) rfl hf (fun hf => ?_) (fun hf => ?_)
    · refine j_aload_n (q := 43) h dX4_add_42 rfl rfl ?_
      refine j_iconst (q := 44) (1) h dX4_add_43 ki_1 rfl ?_
      refine j_sB (q := 47) h tyX4 tyX4_ok nmX4 uin_X4 rfl rfl (by decide) rfl rfl (by decide +kernel) fl_X4_15 dX4_add_44 rfl hf (fun hf => ?_)
      exact j_vret h dX4_add_47 hf
    · refine j_aload_n (q := 20) h dX4_add_19 rfl rfl ?_
      refine j_gR (q := 23) h uin_X4 rfl rfl (by decide) rfl fl_X4_19 dX4_add_20 rfl hf (fun b7 hf => ?_)
      refine j_aload_n (q := 24) h dX4_add_23 rfl rfl ?_
      refine j_gI (q := 27) h uin_X4 rfl rfl (by decide) rfl fl_X4_9 dX4_add_24 rfl hf (fun hf => ?_)
      refine j_iload_n (q := 28) h dX4_add_27 rfl rfl ?_
      refine j_iast (q := 29) h dX4_add_28 rfl hf (fun hf => ?_)
      refine j_aload_n (q := 30) h dX4_add_29 rfl rfl ?_
      refine j_dup (q := 31) h dX4_add_30 rfl rfl ?_
      refine j_gI (q := 34) h uin_X4 rfl rfl (by decide) rfl fl_X4_9 dX4_add_31 rfl hf (fun hf => ?_)
      refine j_iconst (q := 35) (1) h dX4_add_34 ki_1 rfl ?_
      refine j_iadd (q := 36) h dX4_add_35 rfl ?_
      refine j_sI (q := 39) h tyX4 tyX4_ok nmX4 uin_X4 rfl rfl (by decide) rfl rfl (by decide +kernel) fl_X4_9 dX4_add_36 rfl hf (fun hf => ?_)
      refine j_goto 47 h dX4_add_39 (by decide) ?_
      exact j_vret h dX4_add_47 hf
theorem ct_X4_add (l : Launch) (D : va_G) (T : TT) {K : KT} {P : PT} {l0 : Nat} {l1 : Int32} {V : VT} {res : Unit × VT} (hf : f_X4_add K P l0 l1 V = some res) : CT l D T yX4_add cX4_add 2 none rm_X4_add K P V [.ref l0, .int l1] none res.2 :=
  fun _ => CT_of pn_X4 (cat_a (cat_i cat_0)) (Nat.le_of_ble_eq_true rfl) [some (.ref l0), some (.int l1)] rfl (fun _ _ _ h => w_X4_add_0 h hf)
/-! QuotedLayers$Layer.become(LQuotedLayers$Row;)V -/
def rm_X1_become : Room := { frames := 2, cells := 0, slots := 0, locals := 40 }
theorem rf_X1_become_X1_hasMask : RF rm_X1_hasMask rm_X1_become 1 := ⟨⟨by decide, by decide⟩, rfl, rfl⟩
theorem rf_X1_become_X2_firstHeld : RF rm_X2_firstHeld rm_X1_become 1 := ⟨⟨by decide, by decide⟩, rfl, rfl⟩
theorem rf_X1_become_X4_add : RF rm_X4_add rm_X1_become 2 := ⟨⟨by decide, by decide⟩, rfl, rfl⟩
theorem rf_X1_become_X4_at : RF rm_X4_at rm_X1_become 2 := ⟨⟨by decide, by decide⟩, rfl, rfl⟩
theorem rf_X1_become_X4_clear : RF rm_X4_clear rm_X1_become 1 := ⟨⟨by decide, by decide⟩, rfl, rfl⟩
theorem rf_X1_become_X4_size : RF rm_X4_size rm_X1_become 1 := ⟨⟨by decide, by decide⟩, rfl, rfl⟩
def f_X1_become_75 (K : KT) (P : PT) : Nat → Nat → Nat → Int32 → VT → Option (Unit × VT)
  | 0, _, _, _, _ => none
  | n + 1, l0, l1, l2, V => cV K l1 2 (f_X4_size K P l1 V) fun x2 V1 => if l2 < x2 then (gR K P l0 0 3 fun b3 => cV K l1 2 (f_X4_at K P l1 l2 V1) fun x5 V4 => cV K b3 2 (f_X4_add K P b3 x5 V4) fun u7 V6 => (f_X1_become_75 K P n) l0 l1 (l2 + (1 : Int32)) V6) else (some ((), V1))
def f_X1_become_57 (K : KT) (P : PT) (l0 : Nat) (l1 : Nat) (s0 : Nat) (s1 : Int32) (V : VT) : Option (Unit × VT) :=
  sI K V s0 0 2 s1 fun V1 => gR K P l0 0 3 fun b2 => cV K b2 2 (f_X4_clear K P b2 V1) fun u4 V3 => gI K V3 l0 0 1 fun x5 => cS (f_X2_firstHeld K P x5 V3) fun x7 V6 => f_X1_become_75 K P FU l0 l1 x7 V6
def f_X1_become_21 (K : KT) (P : PT) (l0 : Nat) (l1 : Nat) (s0 : Nat) (s1 : Int32) (V : VT) : Option (Unit × VT) :=
  sI K V s0 0 0 s1 fun V1 => cV K l1 2 (f_X4_at K P l1 ((1 : Int32)) V1) fun x3 V2 => sI K V2 l0 0 1 (x3 - ((48 : Int32))) fun V4 => gI K V4 l0 0 1 fun x5 => cS (f_X1_hasMask K P x5 V4) fun x7 V6 => if x7 = 0 then (f_X1_become_57 K P l0 l1 l0 ((-6 : Int32)) V6) else (cV K l1 2 (f_X4_at K P l1 ((2 : Int32)) V6) fun x9 V8 => f_X1_become_57 K P l0 l1 l0 x9 V8)
def f_X1_become (K : KT) (P : PT) (l0 : Nat) (l1 : Nat) (V : VT) : Option (Unit × VT) :=
  cV K l1 2 (f_X4_at K P l1 ((0 : Int32)) V) fun x2 V1 => if x2 = ((45 : Int32)) then (f_X1_become_21 K P l0 l1 l0 ((-6 : Int32)) V1) else (cV K l1 2 (f_X4_at K P l1 ((0 : Int32)) V1) fun x4 V3 => f_X1_become_21 K P l0 l1 l0 x4 V3)
set_option maxRecDepth 20000 in
theorem w_X1_become_75 {g : GT} {K : KT} {P : PT} {res : Unit × VT} (h : OK g RX1 cX1_become 3 none) : ∀ (n : Nat) (l0 : Nat) (l1 : Nat) (l2 : Int32) (V : VT), f_X1_become_75 K P n l0 l1 l2 V = some res → J g rm_X1_become (QF g none K P res.2 0 0) 3 K P V 0 0 75 [some (.ref l0), some (.ref l1), some (.int l2)] [] := by
  intro n
  induction n with
  | zero => intro l0 l1 l2 V hf; rw [f_X1_become_75] at hf; cases hf
  | succ n ih =>
    intro l0 l1 l2 V hf
    rw [f_X1_become_75] at hf
    refine j_iload_n (q := 76) h dX1_become_75 rfl rfl ?_
    refine j_aload_n (q := 77) h dX1_become_76 rfl rfl ?_
    refine j_cVi (q := 80) (As := []) h rfl hf (fun _ hx => ct_X4_size _ _ _ hx) ml_X1_46 vw_X4_size rf_X1_become_X4_size ⟨Nat.zero_le _, Nat.zero_le _⟩ (Nat.le_of_ble_eq_true rfl) dX1_become_77 rfl (fun _ _ hf => ?_)
    refine j_icmp_ge (q := 83) 101 h dX1_become_80 (by decide) rfl hf (fun hf => ?_) (fun hf => ?_)
    · exact j_vret h dX1_become_101 hf
    · refine j_aload_n (q := 84) h dX1_become_83 rfl rfl ?_
      refine j_gR (q := 87) h uin_X1 rfl rfl (by decide) rfl fl_X1_26 dX1_become_84 rfl hf (fun b3 hf => ?_)
      refine j_aload_n (q := 88) h dX1_become_87 rfl rfl ?_
      refine j_iload_n (q := 89) h dX1_become_88 rfl rfl ?_
      refine j_cVi (q := 92) (As := [.int _]) h rfl hf (fun _ hx => ct_X4_at _ _ _ hx) ml_X1_30 vw_X4_at rf_X1_become_X4_at ⟨Nat.zero_le _, Nat.zero_le _⟩ (Nat.le_of_ble_eq_true rfl) dX1_become_89 rfl (fun _ _ hf => ?_)
      refine j_cVv (q := 95) (As := [.int _]) h rfl hf (fun _ hx => ct_X4_add _ _ _ hx) ml_X1_50 vw_X4_add rf_X1_become_X4_add ⟨Nat.zero_le _, Nat.zero_le _⟩ (Nat.le_of_ble_eq_true rfl) dX1_become_92 rfl (fun _ _ hf => ?_)
      refine j_iinc (q := 98) _ [_, _, _] h dX1_become_95 rfl (by decide) rfl (kc_1 _) rfl rfl ?_
      refine j_goto 75 h dX1_become_98 (by decide) ?_
      exact j_sub (lsub_s (lsub_s (lsub_s lsub_0))) (ih _ _ _ _ hf)
set_option maxRecDepth 20000 in
theorem w_X1_become_57 {g : GT} {K : KT} {P : PT} {res : Unit × VT} (h : OK g RX1 cX1_become 3 none) {l0 : Nat} {l1 : Nat} {s0 : Nat} {s1 : Int32} {V : VT} (hf : f_X1_become_57 K P l0 l1 s0 s1 V = some res) : J g rm_X1_become (QF g none K P res.2 0 0) 3 K P V 0 0 57 [some (.ref l0), some (.ref l1), none] [.int s1, .ref s0] := by
  rw [f_X1_become_57] at hf
  refine j_sI (q := 60) h tyX1 tyX1_ok nmX1 uin_X1 rfl rfl (by decide) rfl rfl (by decide +kernel) fl_X1_18 dX1_become_57 rfl hf (fun hf => ?_)
  refine j_aload_n (q := 61) h dX1_become_60 rfl rfl ?_
  refine j_gR (q := 64) h uin_X1 rfl rfl (by decide) rfl fl_X1_26 dX1_become_61 rfl hf (fun b2 hf => ?_)
  refine j_cVv (q := 67) (As := []) h rfl hf (fun _ hx => ct_X4_clear _ _ _ hx) ml_X1_38 vw_X4_clear rf_X1_become_X4_clear ⟨Nat.zero_le _, Nat.zero_le _⟩ (Nat.le_of_ble_eq_true rfl) dX1_become_64 rfl (fun _ _ hf => ?_)
  refine j_aload_n (q := 68) h dX1_become_67 rfl rfl ?_
  refine j_gI (q := 71) h uin_X1 rfl rfl (by decide) rfl fl_X1_15 dX1_become_68 rfl hf (fun hf => ?_)
  refine j_cSi (q := 74) (As := [.int _]) h rfl hf (fun _ hx => ct_X2_firstHeld _ _ _ hx) ml_X1_41 sw_X2_firstHeld rf_X1_become_X2_firstHeld ⟨Nat.zero_le _, Nat.zero_le _⟩ (Nat.le_of_ble_eq_true rfl) dX1_become_71 rfl (fun _ _ hf => ?_)
  refine j_istore_n (q := 75) [_, _, _] h dX1_become_74 rfl (by decide) rfl rfl ?_
  exact j_sub (lsub_s (lsub_s (lsub_s lsub_0))) (w_X1_become_75 h FU _ _ _ _ hf)
set_option maxRecDepth 20000 in
theorem w_X1_become_21 {g : GT} {K : KT} {P : PT} {res : Unit × VT} (h : OK g RX1 cX1_become 3 none) {l0 : Nat} {l1 : Nat} {s0 : Nat} {s1 : Int32} {V : VT} (hf : f_X1_become_21 K P l0 l1 s0 s1 V = some res) : J g rm_X1_become (QF g none K P res.2 0 0) 3 K P V 0 0 21 [some (.ref l0), some (.ref l1), none] [.int s1, .ref s0] := by
  rw [f_X1_become_21] at hf
  refine j_sI (q := 24) h tyX1 tyX1_ok nmX1 uin_X1 rfl rfl (by decide) rfl rfl (by decide +kernel) fl_X1_9 dX1_become_21 rfl hf (fun hf => ?_)
  refine j_aload_n (q := 25) h dX1_become_24 rfl rfl ?_
  refine j_aload_n (q := 26) h dX1_become_25 rfl rfl ?_
  refine j_iconst (q := 27) (1) h dX1_become_26 ki_1 rfl ?_
  refine j_cVi (q := 30) (As := [.int _]) h rfl hf (fun _ hx => ct_X4_at _ _ _ hx) ml_X1_30 vw_X4_at rf_X1_become_X4_at ⟨Nat.zero_le _, Nat.zero_le _⟩ (Nat.le_of_ble_eq_true rfl) dX1_become_27 rfl (fun _ _ hf => ?_)
  refine j_bipush (q := 32) (48) h dX1_become_30 kb_48 rfl ?_
  refine j_isub (q := 33) h dX1_become_32 rfl ?_
  refine j_sI (q := 36) h tyX1 tyX1_ok nmX1 uin_X1 rfl rfl (by decide) rfl rfl (by decide +kernel) fl_X1_15 dX1_become_33 rfl hf (fun hf => ?_)
  refine j_aload_n (q := 37) h dX1_become_36 rfl rfl ?_
  refine j_aload_n (q := 38) h dX1_become_37 rfl rfl ?_
  refine j_gI (q := 41) h uin_X1 rfl rfl (by decide) rfl fl_X1_15 dX1_become_38 rfl hf (fun hf => ?_)
  refine j_cSi (q := 44) (As := [.int _]) h rfl hf (fun _ hx => ct_X1_hasMask _ _ _ hx) ml_X1_34 sw_X1_hasMask rf_X1_become_X1_hasMask ⟨Nat.zero_le _, Nat.zero_le _⟩ (Nat.le_of_ble_eq_true rfl) dX1_become_41 rfl (fun _ _ hf => ?_)
  refine j_if_eq (q := 47) 55 h dX1_become_44 (by decide) rfl hf (fun hf => ?_) (fun hf => ?_)
  · refine j_bipush (q := 57) (-6) h dX1_become_55 kb_m6 rfl ?_
    exact j_sub (lsub_s (lsub_s (lsub_n lsub_0))) (w_X1_become_57 h hf)
  · refine j_aload_n (q := 48) h dX1_become_47 rfl rfl ?_
    refine j_iconst (q := 49) (2) h dX1_become_48 ki_2 rfl ?_
    refine j_cVi (q := 52) (As := [.int _]) h rfl hf (fun _ hx => ct_X4_at _ _ _ hx) ml_X1_30 vw_X4_at rf_X1_become_X4_at ⟨Nat.zero_le _, Nat.zero_le _⟩ (Nat.le_of_ble_eq_true rfl) dX1_become_49 rfl (fun _ _ hf => ?_)
    refine j_goto 57 h dX1_become_52 (by decide) ?_
    exact j_sub (lsub_s (lsub_s (lsub_n lsub_0))) (w_X1_become_57 h hf)
set_option maxRecDepth 20000 in
theorem w_X1_become_0 {g : GT} {K : KT} {P : PT} {res : Unit × VT} (h : OK g RX1 cX1_become 3 none) {l0 : Nat} {l1 : Nat} {V : VT} (hf : f_X1_become K P l0 l1 V = some res) : J g rm_X1_become (QF g none K P res.2 0 0) 3 K P V 0 0 0 [some (.ref l0), some (.ref l1), none] [] := by
  rw [f_X1_become] at hf
  refine j_aload_n (q := 1) h dX1_become_0 rfl rfl ?_
  refine j_aload_n (q := 2) h dX1_become_1 rfl rfl ?_
  refine j_iconst (q := 3) (0) h dX1_become_2 ki_0 rfl ?_
  refine j_cVi (q := 6) (As := [.int _]) h rfl hf (fun _ hx => ct_X4_at _ _ _ hx) ml_X1_30 vw_X4_at rf_X1_become_X4_at ⟨Nat.zero_le _, Nat.zero_le _⟩ (Nat.le_of_ble_eq_true rfl) dX1_become_3 rfl (fun _ _ hf => ?_)
  refine j_bipush (q := 8) (45) h dX1_become_6 kb_45 rfl ?_
  refine j_icmp_ne (q := 11) 16 h dX1_become_8 (by decide) rfl hf (fun hf => ?_) (fun hf => ?_)
  · refine j_aload_n (q := 17) h dX1_become_16 rfl rfl ?_
    refine j_iconst (q := 18) (0) h dX1_become_17 ki_0 rfl ?_
    refine j_cVi (q := 21) (As := [.int _]) h rfl hf (fun _ hx => ct_X4_at _ _ _ hx) ml_X1_30 vw_X4_at rf_X1_become_X4_at ⟨Nat.zero_le _, Nat.zero_le _⟩ (Nat.le_of_ble_eq_true rfl) dX1_become_18 rfl (fun _ _ hf => ?_)
    exact j_sub (lsub_s (lsub_s (lsub_n lsub_0))) (w_X1_become_21 h hf)
  · refine j_bipush (q := 13) (-6) h dX1_become_11 kb_m6 rfl ?_
    refine j_goto 21 h dX1_become_13 (by decide) ?_
    exact j_sub (lsub_s (lsub_s (lsub_n lsub_0))) (w_X1_become_21 h hf)
theorem ct_X1_become (l : Launch) (D : va_G) (T : TT) {K : KT} {P : PT} {l0 : Nat} {l1 : Nat} {V : VT} {res : Unit × VT} (hf : f_X1_become K P l0 l1 V = some res) : CT l D T yX1_become cX1_become 3 none rm_X1_become K P V [.ref l0, .ref l1] none res.2 :=
  fun _ => CT_of pn_X1 (cat_a (cat_a cat_0)) (Nat.le_of_ble_eq_true rfl) [some (.ref l0), some (.ref l1), none] rfl (fun _ _ _ h => w_X1_become_0 h hf)
/-! QuotedLayers$Row.copyFirst(LQuotedLayers$Row;I)V -/
def rm_X4_copyFirst : Room := { frames := 1, cells := 0, slots := 0, locals := 21 }
theorem rf_X4_copyFirst_X4_add : RF rm_X4_add rm_X4_copyFirst 2 := ⟨⟨by decide, by decide⟩, rfl, rfl⟩
theorem rf_X4_copyFirst_X4_at : RF rm_X4_at rm_X4_copyFirst 2 := ⟨⟨by decide, by decide⟩, rfl, rfl⟩
theorem rf_X4_copyFirst_X4_clear : RF rm_X4_clear rm_X4_copyFirst 1 := ⟨⟨by decide, by decide⟩, rfl, rfl⟩
theorem rf_X4_copyFirst_X4_size : RF rm_X4_size rm_X4_copyFirst 1 := ⟨⟨by decide, by decide⟩, rfl, rfl⟩
def f_X4_copyFirst_6 (K : KT) (P : PT) : Nat → Nat → Nat → Int32 → Int32 → VT → Option (Unit × VT)
  | 0, _, _, _, _, _ => none
  | n + 1, l0, l1, l2, l3, V => if l3 < l2 then (cV K l1 2 (f_X4_size K P l1 V) fun x2 V1 => if l3 < x2 then (cV K l1 2 (f_X4_at K P l1 l3 V1) fun x4 V3 => cV K l0 2 (f_X4_add K P l0 x4 V3) fun u6 V5 => (f_X4_copyFirst_6 K P n) l0 l1 l2 (l3 + (1 : Int32)) V5) else (some ((), V1))) else (some ((), V))
def f_X4_copyFirst (K : KT) (P : PT) (l0 : Nat) (l1 : Nat) (l2 : Int32) (V : VT) : Option (Unit × VT) :=
  cV K l0 2 (f_X4_clear K P l0 V) fun u2 V1 => f_X4_copyFirst_6 K P FU l0 l1 l2 ((0 : Int32)) V1
set_option maxRecDepth 20000 in
theorem w_X4_copyFirst_6 {g : GT} {K : KT} {P : PT} {res : Unit × VT} (h : OK g RX4 cX4_copyFirst 4 none) : ∀ (n : Nat) (l0 : Nat) (l1 : Nat) (l2 : Int32) (l3 : Int32) (V : VT), f_X4_copyFirst_6 K P n l0 l1 l2 l3 V = some res → J g rm_X4_copyFirst (QF g none K P res.2 0 0) 4 K P V 0 0 6 [some (.ref l0), some (.ref l1), some (.int l2), some (.int l3)] [] := by
  intro n
  induction n with
  | zero => intro l0 l1 l2 l3 V hf; rw [f_X4_copyFirst_6] at hf; cases hf
  | succ n ih =>
    intro l0 l1 l2 l3 V hf
    rw [f_X4_copyFirst_6] at hf
    refine j_iload_n (q := 7) h dX4_copyFirst_6 rfl rfl ?_
    refine j_iload_n (q := 8) h dX4_copyFirst_7 rfl rfl ?_
    refine j_icmp_ge (q := 11) 34 h dX4_copyFirst_8 (by decide) rfl hf (fun hf => ?_) (fun hf => ?_)
    · exact j_vret h dX4_copyFirst_34 hf
    · refine j_iload_n (q := 12) h dX4_copyFirst_11 rfl rfl ?_
      refine j_aload_n (q := 13) h dX4_copyFirst_12 rfl rfl ?_
      refine j_cVi (q := 16) (As := []) h rfl hf (fun _ hx => ct_X4_size _ _ _ hx) ml_X4_23 vw_X4_size rf_X4_copyFirst_X4_size ⟨Nat.zero_le _, Nat.zero_le _⟩ (Nat.le_of_ble_eq_true rfl) dX4_copyFirst_13 rfl (fun _ _ hf => ?_)
      refine j_icmp_ge (q := 19) 34 h dX4_copyFirst_16 (by decide) rfl hf (fun hf => ?_) (fun hf => ?_)
      · exact j_vret h dX4_copyFirst_34 hf
      · refine j_aload_n (q := 20) h dX4_copyFirst_19 rfl rfl ?_
        refine j_aload_n (q := 21) h dX4_copyFirst_20 rfl rfl ?_
        refine j_iload_n (q := 22) h dX4_copyFirst_21 rfl rfl ?_
        refine j_cVi (q := 25) (As := [.int _]) h rfl hf (fun _ hx => ct_X4_at _ _ _ hx) ml_X4_34 vw_X4_at rf_X4_copyFirst_X4_at ⟨Nat.zero_le _, Nat.zero_le _⟩ (Nat.le_of_ble_eq_true rfl) dX4_copyFirst_22 rfl (fun _ _ hf => ?_)
        refine j_cVv (q := 28) (As := [.int _]) h rfl hf (fun _ hx => ct_X4_add _ _ _ hx) ml_X4_38 vw_X4_add rf_X4_copyFirst_X4_add ⟨Nat.zero_le _, Nat.zero_le _⟩ (Nat.le_of_ble_eq_true rfl) dX4_copyFirst_25 rfl (fun _ _ hf => ?_)
        refine j_iinc (q := 31) _ [_, _, _, _] h dX4_copyFirst_28 rfl (by decide) rfl (kc_1 _) rfl rfl ?_
        refine j_goto 6 h dX4_copyFirst_31 (by decide) ?_
        exact j_sub (lsub_s (lsub_s (lsub_s (lsub_s lsub_0)))) (ih _ _ _ _ _ hf)
set_option maxRecDepth 20000 in
theorem w_X4_copyFirst_0 {g : GT} {K : KT} {P : PT} {res : Unit × VT} (h : OK g RX4 cX4_copyFirst 4 none) {l0 : Nat} {l1 : Nat} {l2 : Int32} {V : VT} (hf : f_X4_copyFirst K P l0 l1 l2 V = some res) : J g rm_X4_copyFirst (QF g none K P res.2 0 0) 4 K P V 0 0 0 [some (.ref l0), some (.ref l1), some (.int l2), none] [] := by
  rw [f_X4_copyFirst] at hf
  refine j_aload_n (q := 1) h dX4_copyFirst_0 rfl rfl ?_
  refine j_cVv (q := 4) (As := []) h rfl hf (fun _ hx => ct_X4_clear _ _ _ hx) ml_X4_31 vw_X4_clear rf_X4_copyFirst_X4_clear ⟨Nat.zero_le _, Nat.zero_le _⟩ (Nat.le_of_ble_eq_true rfl) dX4_copyFirst_1 rfl (fun _ _ hf => ?_)
  refine j_iconst (q := 5) (0) h dX4_copyFirst_4 ki_0 rfl ?_
  refine j_istore_n (q := 6) [_, _, _, _] h dX4_copyFirst_5 rfl (by decide) rfl rfl ?_
  exact j_sub (lsub_s (lsub_s (lsub_s (lsub_s lsub_0)))) (w_X4_copyFirst_6 h FU _ _ _ _ _ hf)
theorem ct_X4_copyFirst (l : Launch) (D : va_G) (T : TT) {K : KT} {P : PT} {l0 : Nat} {l1 : Nat} {l2 : Int32} {V : VT} {res : Unit × VT} (hf : f_X4_copyFirst K P l0 l1 l2 V = some res) : CT l D T yX4_copyFirst cX4_copyFirst 4 none rm_X4_copyFirst K P V [.ref l0, .ref l1, .int l2] none res.2 :=
  fun _ => CT_of pn_X4 (cat_a (cat_a (cat_i cat_0))) (Nat.le_of_ble_eq_true rfl) [some (.ref l0), some (.ref l1), some (.int l2), none] rfl (fun _ _ _ h => w_X4_copyFirst_0 h hf)
/-! QuotedLayers$Row.copyFrom(LQuotedLayers$Row;)V -/
def rm_X4_copyFrom : Room := { frames := 2, cells := 0, slots := 0, locals := 44 }
theorem rf_X4_copyFrom_X4_copyFirst : RF rm_X4_copyFirst rm_X4_copyFrom 4 := ⟨⟨by decide, by decide⟩, rfl, rfl⟩
theorem rf_X4_copyFrom_X4_size : RF rm_X4_size rm_X4_copyFrom 1 := ⟨⟨by decide, by decide⟩, rfl, rfl⟩
def f_X4_copyFrom (K : KT) (P : PT) (l0 : Nat) (l1 : Nat) (V : VT) : Option (Unit × VT) :=
  cV K l1 2 (f_X4_size K P l1 V) fun x2 V1 => cV K l0 2 (f_X4_copyFirst K P l0 l1 x2 V1) fun u4 V3 => some ((), V3)
set_option maxRecDepth 20000 in
theorem w_X4_copyFrom_0 {g : GT} {K : KT} {P : PT} {res : Unit × VT} (h : OK g RX4 cX4_copyFrom 2 none) {l0 : Nat} {l1 : Nat} {V : VT} (hf : f_X4_copyFrom K P l0 l1 V = some res) : J g rm_X4_copyFrom (QF g none K P res.2 0 0) 2 K P V 0 0 0 [some (.ref l0), some (.ref l1)] [] := by
  rw [f_X4_copyFrom] at hf
  refine j_aload_n (q := 1) h dX4_copyFrom_0 rfl rfl ?_
  refine j_aload_n (q := 2) h dX4_copyFrom_1 rfl rfl ?_
  refine j_aload_n (q := 3) h dX4_copyFrom_2 rfl rfl ?_
  refine j_cVi (q := 6) (As := []) h rfl hf (fun _ hx => ct_X4_size _ _ _ hx) ml_X4_23 vw_X4_size rf_X4_copyFrom_X4_size ⟨Nat.zero_le _, Nat.zero_le _⟩ (Nat.le_of_ble_eq_true rfl) dX4_copyFrom_3 rfl (fun _ _ hf => ?_)
  refine j_cVv (q := 9) (As := [.ref _, .int _]) h rfl hf (fun _ hx => ct_X4_copyFirst _ _ _ hx) ml_X4_27 vw_X4_copyFirst rf_X4_copyFrom_X4_copyFirst ⟨Nat.zero_le _, Nat.zero_le _⟩ (Nat.le_of_ble_eq_true rfl) dX4_copyFrom_6 rfl (fun _ _ hf => ?_)
  exact j_vret h dX4_copyFrom_9 hf
theorem ct_X4_copyFrom (l : Launch) (D : va_G) (T : TT) {K : KT} {P : PT} {l0 : Nat} {l1 : Nat} {V : VT} {res : Unit × VT} (hf : f_X4_copyFrom K P l0 l1 V = some res) : CT l D T yX4_copyFrom cX4_copyFrom 2 none rm_X4_copyFrom K P V [.ref l0, .ref l1] none res.2 :=
  fun _ => CT_of pn_X4 (cat_a (cat_a cat_0)) (Nat.le_of_ble_eq_true rfl) [some (.ref l0), some (.ref l1)] rfl (fun _ _ _ h => w_X4_copyFrom_0 h hf)
/-! QuotedLayers$Layer.copyFrom(LQuotedLayers$Layer;)V -/
def rm_X1_copyFrom : Room := { frames := 3, cells := 0, slots := 0, locals := 65 }
theorem rf_X1_copyFrom_X4_copyFrom : RF rm_X4_copyFrom rm_X1_copyFrom 2 := ⟨⟨by decide, by decide⟩, rfl, rfl⟩
def f_X1_copyFrom (K : KT) (P : PT) (l0 : Nat) (l1 : Nat) (V : VT) : Option (Unit × VT) :=
  gI K V l1 0 0 fun x1 => sI K V l0 0 0 x1 fun V2 => gI K V2 l1 0 1 fun x3 => sI K V2 l0 0 1 x3 fun V4 => gI K V4 l1 0 2 fun x5 => sI K V4 l0 0 2 x5 fun V6 => gR K P l0 0 3 fun b7 => gR K P l1 0 3 fun b8 => cV K b7 2 (f_X4_copyFrom K P b7 b8 V6) fun u10 V9 => some ((), V9)
set_option maxRecDepth 20000 in
theorem w_X1_copyFrom_0 {g : GT} {K : KT} {P : PT} {res : Unit × VT} (h : OK g RX1 cX1_copyFrom 2 none) {l0 : Nat} {l1 : Nat} {V : VT} (hf : f_X1_copyFrom K P l0 l1 V = some res) : J g rm_X1_copyFrom (QF g none K P res.2 0 0) 2 K P V 0 0 0 [some (.ref l0), some (.ref l1)] [] := by
  rw [f_X1_copyFrom] at hf
  refine j_aload_n (q := 1) h dX1_copyFrom_0 rfl rfl ?_
  refine j_aload_n (q := 2) h dX1_copyFrom_1 rfl rfl ?_
  refine j_gI (q := 5) h uin_X1 rfl rfl (by decide) rfl fl_X1_9 dX1_copyFrom_2 rfl hf (fun hf => ?_)
  refine j_sI (q := 8) h tyX1 tyX1_ok nmX1 uin_X1 rfl rfl (by decide) rfl rfl (by decide +kernel) fl_X1_9 dX1_copyFrom_5 rfl hf (fun hf => ?_)
  refine j_aload_n (q := 9) h dX1_copyFrom_8 rfl rfl ?_
  refine j_aload_n (q := 10) h dX1_copyFrom_9 rfl rfl ?_
  refine j_gI (q := 13) h uin_X1 rfl rfl (by decide) rfl fl_X1_15 dX1_copyFrom_10 rfl hf (fun hf => ?_)
  refine j_sI (q := 16) h tyX1 tyX1_ok nmX1 uin_X1 rfl rfl (by decide) rfl rfl (by decide +kernel) fl_X1_15 dX1_copyFrom_13 rfl hf (fun hf => ?_)
  refine j_aload_n (q := 17) h dX1_copyFrom_16 rfl rfl ?_
  refine j_aload_n (q := 18) h dX1_copyFrom_17 rfl rfl ?_
  refine j_gI (q := 21) h uin_X1 rfl rfl (by decide) rfl fl_X1_18 dX1_copyFrom_18 rfl hf (fun hf => ?_)
  refine j_sI (q := 24) h tyX1 tyX1_ok nmX1 uin_X1 rfl rfl (by decide) rfl rfl (by decide +kernel) fl_X1_18 dX1_copyFrom_21 rfl hf (fun hf => ?_)
  refine j_aload_n (q := 25) h dX1_copyFrom_24 rfl rfl ?_
  refine j_gR (q := 28) h uin_X1 rfl rfl (by decide) rfl fl_X1_26 dX1_copyFrom_25 rfl hf (fun b7 hf => ?_)
  refine j_aload_n (q := 29) h dX1_copyFrom_28 rfl rfl ?_
  refine j_gR (q := 32) h uin_X1 rfl rfl (by decide) rfl fl_X1_26 dX1_copyFrom_29 rfl hf (fun b8 hf => ?_)
  refine j_cVv (q := 35) (As := [.ref _]) h rfl hf (fun _ hx => ct_X4_copyFrom _ _ _ hx) ml_X1_53 vw_X4_copyFrom rf_X1_copyFrom_X4_copyFrom ⟨Nat.zero_le _, Nat.zero_le _⟩ (Nat.le_of_ble_eq_true rfl) dX1_copyFrom_32 rfl (fun _ _ hf => ?_)
  exact j_vret h dX1_copyFrom_35 hf
theorem ct_X1_copyFrom (l : Launch) (D : va_G) (T : TT) {K : KT} {P : PT} {l0 : Nat} {l1 : Nat} {V : VT} {res : Unit × VT} (hf : f_X1_copyFrom K P l0 l1 V = some res) : CT l D T yX1_copyFrom cX1_copyFrom 2 none rm_X1_copyFrom K P V [.ref l0, .ref l1] none res.2 :=
  fun _ => CT_of pn_X1 (cat_a (cat_a cat_0)) (Nat.le_of_ble_eq_true rfl) [some (.ref l0), some (.ref l1)] rfl (fun _ _ _ h => w_X1_copyFrom_0 h hf)
/-! QuotedLayers$Layer.heldCount()I -/
def rm_X1_heldCount : Room := { frames := 1, cells := 0, slots := 0, locals := 20 }
theorem rf_X1_heldCount_X4_size : RF rm_X4_size rm_X1_heldCount 1 := ⟨⟨by decide, by decide⟩, rfl, rfl⟩
def f_X1_heldCount (K : KT) (P : PT) (l0 : Nat) (V : VT) : Option (Int32 × VT) :=
  gR K P l0 0 3 fun b1 => cV K b1 2 (f_X4_size K P b1 V) fun x3 V2 => some (x3, V2)
set_option maxRecDepth 20000 in
theorem w_X1_heldCount_0 {g : GT} {K : KT} {P : PT} {res : Int32 × VT} (h : OK g RX1 cX1_heldCount 1 (some .int)) {l0 : Nat} {V : VT} (hf : f_X1_heldCount K P l0 V = some res) : J g rm_X1_heldCount (QF g (some (.int res.1)) K P res.2 0 0) 1 K P V 0 0 0 [some (.ref l0)] [] := by
  rw [f_X1_heldCount] at hf
  refine j_aload_n (q := 1) h dX1_heldCount_0 rfl rfl ?_
  refine j_gR (q := 4) h uin_X1 rfl rfl (by decide) rfl fl_X1_26 dX1_heldCount_1 rfl hf (fun b1 hf => ?_)
  refine j_cVi (q := 7) (As := []) h rfl hf (fun _ hx => ct_X4_size _ _ _ hx) ml_X1_46 vw_X4_size rf_X1_heldCount_X4_size ⟨Nat.zero_le _, Nat.zero_le _⟩ (Nat.le_of_ble_eq_true rfl) dX1_heldCount_4 rfl (fun _ _ hf => ?_)
  exact j_iret h dX1_heldCount_7 hf
theorem ct_X1_heldCount (l : Launch) (D : va_G) (T : TT) {K : KT} {P : PT} {l0 : Nat} {V : VT} {res : Int32 × VT} (hf : f_X1_heldCount K P l0 V = some res) : CT l D T yX1_heldCount cX1_heldCount 1 (some .int) rm_X1_heldCount K P V [.ref l0] (some (.int res.1)) res.2 :=
  fun _ => CT_of pn_X1 (cat_a cat_0) (Nat.le_of_ble_eq_true rfl) [some (.ref l0)] rfl (fun _ _ _ h => w_X1_heldCount_0 h hf)
/-! QuotedLayers$Layer.part(I)I -/
def rm_X1_part : Room := { frames := 1, cells := 0, slots := 0, locals := 21 }
theorem rf_X1_part_X4_at : RF rm_X4_at rm_X1_part 2 := ⟨⟨by decide, by decide⟩, rfl, rfl⟩
def f_X1_part (K : KT) (P : PT) (l0 : Nat) (l1 : Int32) (V : VT) : Option (Int32 × VT) :=
  if l1 = 0 then (gI K V l0 0 0 fun x1 => some (x1, V)) else if l1 = 1 then (gI K V l0 0 1 fun x2 => some (x2, V)) else if l1 = 2 then (gI K V l0 0 2 fun x3 => some (x3, V)) else (gR K P l0 0 3 fun b4 => cV K b4 2 (f_X4_at K P b4 (l1 - ((3 : Int32))) V) fun x6 V5 => some (x6, V5))
set_option maxRecDepth 20000 in
theorem w_X1_part_0 {g : GT} {K : KT} {P : PT} {res : Int32 × VT} (h : OK g RX1 cX1_part 2 (some .int)) {l0 : Nat} {l1 : Int32} {V : VT} (hf : f_X1_part K P l0 l1 V = some res) : J g rm_X1_part (QF g (some (.int res.1)) K P res.2 0 0) 2 K P V 0 0 0 [some (.ref l0), some (.int l1)] [] := by
  rw [f_X1_part] at hf
  refine j_iload_n (q := 1) h dX1_part_0 rfl rfl ?_
  refine j_case hf (fun e0 hf => ?_) (fun e0 hf => ?_)
  · refine j_tsIn (c := 0) 28 h e0 dX1_part_1 (by decide) (by decide) rfl (by decide) ?_
    refine j_aload_n (q := 29) h dX1_part_28 rfl rfl ?_
    refine j_gI (q := 32) h uin_X1 rfl rfl (by decide) rfl fl_X1_9 dX1_part_29 rfl hf (fun hf => ?_)
    exact j_iret h dX1_part_32 hf
  refine j_case hf (fun e1 hf => ?_) (fun e1 hf => ?_)
  · refine j_tsIn (c := 1) 33 h e1 dX1_part_1 (by decide) (by decide) rfl (by decide) ?_
    refine j_aload_n (q := 34) h dX1_part_33 rfl rfl ?_
    refine j_gI (q := 37) h uin_X1 rfl rfl (by decide) rfl fl_X1_15 dX1_part_34 rfl hf (fun hf => ?_)
    exact j_iret h dX1_part_37 hf
  refine j_case hf (fun e2 hf => ?_) (fun e2 hf => ?_)
  · refine j_tsIn (c := 2) 38 h e2 dX1_part_1 (by decide) (by decide) rfl (by decide) ?_
    refine j_aload_n (q := 39) h dX1_part_38 rfl rfl ?_
    refine j_gI (q := 42) h uin_X1 rfl rfl (by decide) rfl fl_X1_18 dX1_part_39 rfl hf (fun hf => ?_)
    exact j_iret h dX1_part_42 hf
  refine j_tsOut 43 h dX1_part_1 (by have n0 := ne_toInt e0 kt_0; have n1 := ne_toInt e1 kt_1; have n2 := ne_toInt e2 kt_2; omega) (by decide) ?_
  refine j_aload_n (q := 44) h dX1_part_43 rfl rfl ?_
  refine j_gR (q := 47) h uin_X1 rfl rfl (by decide) rfl fl_X1_26 dX1_part_44 rfl hf (fun b4 hf => ?_)
  refine j_iload_n (q := 48) h dX1_part_47 rfl rfl ?_
  refine j_iconst (q := 49) (3) h dX1_part_48 ki_3 rfl ?_
  refine j_isub (q := 50) h dX1_part_49 rfl ?_
  refine j_cVi (q := 53) (As := [.int _]) h rfl hf (fun _ hx => ct_X4_at _ _ _ hx) ml_X1_30 vw_X4_at rf_X1_part_X4_at ⟨Nat.zero_le _, Nat.zero_le _⟩ (Nat.le_of_ble_eq_true rfl) dX1_part_50 rfl (fun _ _ hf => ?_)
  exact j_iret h dX1_part_53 hf
theorem ct_X1_part (l : Launch) (D : va_G) (T : TT) {K : KT} {P : PT} {l0 : Nat} {l1 : Int32} {V : VT} {res : Int32 × VT} (hf : f_X1_part K P l0 l1 V = some res) : CT l D T yX1_part cX1_part 2 (some .int) rm_X1_part K P V [.ref l0, .int l1] (some (.int res.1)) res.2 :=
  fun _ => CT_of pn_X1 (cat_a (cat_i cat_0)) (Nat.le_of_ble_eq_true rfl) [some (.ref l0), some (.int l1)] rfl (fun _ _ _ h => w_X1_part_0 h hf)
/-! QuotedLayers$Layer.isAsAtFirst()Z -/
def rm_X1_isAsAtFirst : Room := { frames := 1, cells := 0, slots := 0, locals := 20 }
theorem rf_X1_isAsAtFirst_X4_size : RF rm_X4_size rm_X1_isAsAtFirst 1 := ⟨⟨by decide, by decide⟩, rfl, rfl⟩
def f_X1_isAsAtFirst (K : KT) (P : PT) (l0 : Nat) (V : VT) : Option (Int32 × VT) :=
  gI K V l0 0 0 fun x1 => if x1 = ((-6 : Int32)) then (gI K V l0 0 1 fun x2 => if x2 = 0 then (gR K P l0 0 3 fun b3 => cV K b3 2 (f_X4_size K P b3 V) fun x5 V4 => if x5 = 0 then (rB ((1 : Int32)) V4) else (rB ((0 : Int32)) V4)) else (rB ((0 : Int32)) V)) else (rB ((0 : Int32)) V)
set_option maxRecDepth 20000 in
theorem w_X1_isAsAtFirst_0 {g : GT} {K : KT} {P : PT} {res : Int32 × VT} (h : OK g RX1 cX1_isAsAtFirst 1 (some .boolean)) {l0 : Nat} {V : VT} (hf : f_X1_isAsAtFirst K P l0 V = some res) : J g rm_X1_isAsAtFirst (QF g (some (.int res.1)) K P res.2 0 0) 1 K P V 0 0 0 [some (.ref l0)] [] := by
  rw [f_X1_isAsAtFirst] at hf
  refine j_aload_n (q := 1) h dX1_isAsAtFirst_0 rfl rfl ?_
  refine j_gI (q := 4) h uin_X1 rfl rfl (by decide) rfl fl_X1_9 dX1_isAsAtFirst_1 rfl hf (fun hf => ?_)
  refine j_bipush (q := 6) (-6) h dX1_isAsAtFirst_4 kb_m6 rfl ?_
  refine j_icmp_ne (q := 9) 30 h dX1_isAsAtFirst_6 (by decide) rfl hf (fun hf => ?_) (fun hf => ?_)
  · refine j_iconst (q := 31) (0) h dX1_isAsAtFirst_30 ki_0 rfl ?_
    exact j_zret h dX1_isAsAtFirst_31 hf
  · refine j_aload_n (q := 10) h dX1_isAsAtFirst_9 rfl rfl ?_
    refine j_gI (q := 13) h uin_X1 rfl rfl (by decide) rfl fl_X1_15 dX1_isAsAtFirst_10 rfl hf (fun hf => ?_)
    refine j_if_ne (q := 16) 30 h dX1_isAsAtFirst_13 (by decide) rfl hf (fun hf => ?_) (fun hf => ?_)
    · refine j_iconst (q := 31) (0) h dX1_isAsAtFirst_30 ki_0 rfl ?_
      exact j_zret h dX1_isAsAtFirst_31 hf
    · refine j_aload_n (q := 17) h dX1_isAsAtFirst_16 rfl rfl ?_
      refine j_gR (q := 20) h uin_X1 rfl rfl (by decide) rfl fl_X1_26 dX1_isAsAtFirst_17 rfl hf (fun b3 hf => ?_)
      refine j_cVi (q := 23) (As := []) h rfl hf (fun _ hx => ct_X4_size _ _ _ hx) ml_X1_46 vw_X4_size rf_X1_isAsAtFirst_X4_size ⟨Nat.zero_le _, Nat.zero_le _⟩ (Nat.le_of_ble_eq_true rfl) dX1_isAsAtFirst_20 rfl (fun _ _ hf => ?_)
      refine j_if_ne (q := 26) 30 h dX1_isAsAtFirst_23 (by decide) rfl hf (fun hf => ?_) (fun hf => ?_)
      · refine j_iconst (q := 31) (0) h dX1_isAsAtFirst_30 ki_0 rfl ?_
        exact j_zret h dX1_isAsAtFirst_31 hf
      · refine j_iconst (q := 27) (1) h dX1_isAsAtFirst_26 ki_1 rfl ?_
        refine j_goto 31 h dX1_isAsAtFirst_27 (by decide) ?_
        exact j_zret h dX1_isAsAtFirst_31 hf
theorem ct_X1_isAsAtFirst (l : Launch) (D : va_G) (T : TT) {K : KT} {P : PT} {l0 : Nat} {V : VT} {res : Int32 × VT} (hf : f_X1_isAsAtFirst K P l0 V = some res) : CT l D T yX1_isAsAtFirst cX1_isAsAtFirst 1 (some .boolean) rm_X1_isAsAtFirst K P V [.ref l0] (some (.int res.1)) res.2 :=
  fun _ => CT_of pn_X1 (cat_a cat_0) (Nat.le_of_ble_eq_true rfl) [some (.ref l0)] rfl (fun _ _ _ h => w_X1_isAsAtFirst_0 h hf)
/-! QuotedLayers$Layer.addMark(LQuotedLayers$Row;)V -/
def rm_X1_addMark : Room := { frames := 1, cells := 0, slots := 0, locals := 21 }
theorem rf_X1_addMark_X4_add : RF rm_X4_add rm_X1_addMark 2 := ⟨⟨by decide, by decide⟩, rfl, rfl⟩
def f_X1_addMark (K : KT) (P : PT) (l0 : Nat) (l1 : Nat) (V : VT) : Option (Unit × VT) :=
  gI K V l0 0 0 fun x1 => if x1 = ((-6 : Int32)) then (some ((), V)) else (gI K V l0 0 0 fun x2 => cV K l1 2 (f_X4_add K P l1 x2 V) fun u4 V3 => some ((), V3))
set_option maxRecDepth 20000 in
theorem w_X1_addMark_0 {g : GT} {K : KT} {P : PT} {res : Unit × VT} (h : OK g RX1 cX1_addMark 2 none) {l0 : Nat} {l1 : Nat} {V : VT} (hf : f_X1_addMark K P l0 l1 V = some res) : J g rm_X1_addMark (QF g none K P res.2 0 0) 2 K P V 0 0 0 [some (.ref l0), some (.ref l1)] [] := by
  rw [f_X1_addMark] at hf
  refine j_aload_n (q := 1) h dX1_addMark_0 rfl rfl ?_
  refine j_gI (q := 4) h uin_X1 rfl rfl (by decide) rfl fl_X1_9 dX1_addMark_1 rfl hf (fun hf => ?_)
  refine j_bipush (q := 6) (-6) h dX1_addMark_4 kb_m6 rfl ?_
  refine j_icmp_eq (q := 9) 17 h dX1_addMark_6 (by decide) rfl hf (fun hf => ?_) (fun hf => ?_)
  · exact j_vret h dX1_addMark_17 hf
  · refine j_aload_n (q := 10) h dX1_addMark_9 rfl rfl ?_
    refine j_aload_n (q := 11) h dX1_addMark_10 rfl rfl ?_
    refine j_gI (q := 14) h uin_X1 rfl rfl (by decide) rfl fl_X1_9 dX1_addMark_11 rfl hf (fun hf => ?_)
    refine j_cVv (q := 17) (As := [.int _]) h rfl hf (fun _ hx => ct_X4_add _ _ _ hx) ml_X1_50 vw_X4_add rf_X1_addMark_X4_add ⟨Nat.zero_le _, Nat.zero_le _⟩ (Nat.le_of_ble_eq_true rfl) dX1_addMark_14 rfl (fun _ _ hf => ?_)
    exact j_vret h dX1_addMark_17 hf
theorem ct_X1_addMark (l : Launch) (D : va_G) (T : TT) {K : KT} {P : PT} {l0 : Nat} {l1 : Nat} {V : VT} {res : Unit × VT} (hf : f_X1_addMark K P l0 l1 V = some res) : CT l D T yX1_addMark cX1_addMark 2 none rm_X1_addMark K P V [.ref l0, .ref l1] none res.2 :=
  fun _ => CT_of pn_X1 (cat_a (cat_a cat_0)) (Nat.le_of_ble_eq_true rfl) [some (.ref l0), some (.ref l1)] rfl (fun _ _ _ h => w_X1_addMark_0 h hf)
/-! QuotedLayers$Row.hasAhead(II)Z -/
def rm_X4_hasAhead : Room := { frames := 0, cells := 0, slots := 0, locals := 0 }
def f_X4_hasAhead_2 (K : KT) (P : PT) : Nat → Nat → Int32 → Int32 → Int32 → VT → Option (Int32 × VT)
  | 0, _, _, _, _, _ => none
  | n + 1, l0, l1, l2, l3, V => if l3 < l2 then (gI K V l0 2 1 fun x1 => if l3 < x1 then (gR K P l0 2 0 fun b2 => aN K b2 fun x3 => if l3 < x3 then (gR K P l0 2 0 fun b4 => aI K V 0 b4 l3 fun x5 => if x5 = l1 then (rB ((1 : Int32)) V) else ((f_X4_hasAhead_2 K P n) l0 l1 l2 (l3 + (1 : Int32)) V)) else (rB ((0 : Int32)) V)) else (rB ((0 : Int32)) V)) else (rB ((0 : Int32)) V)
def f_X4_hasAhead (K : KT) (P : PT) (l0 : Nat) (l1 : Int32) (l2 : Int32) (V : VT) : Option (Int32 × VT) :=
  f_X4_hasAhead_2 K P FU l0 l1 l2 ((0 : Int32)) V
set_option maxRecDepth 20000 in
theorem w_X4_hasAhead_2 {g : GT} {K : KT} {P : PT} {res : Int32 × VT} (h : OK g RX4 cX4_hasAhead 4 (some .boolean)) : ∀ (n : Nat) (l0 : Nat) (l1 : Int32) (l2 : Int32) (l3 : Int32) (V : VT), f_X4_hasAhead_2 K P n l0 l1 l2 l3 V = some res → J g rm_X4_hasAhead (QF g (some (.int res.1)) K P res.2 0 0) 4 K P V 0 0 2 [some (.ref l0), some (.int l1), some (.int l2), some (.int l3)] [] := by
  intro n
  induction n with
  | zero => intro l0 l1 l2 l3 V hf; rw [f_X4_hasAhead_2] at hf; cases hf
  | succ n ih =>
    intro l0 l1 l2 l3 V hf
    rw [f_X4_hasAhead_2] at hf
    refine j_iload_n (q := 3) h dX4_hasAhead_2 rfl rfl ?_
    refine j_iload_n (q := 4) h dX4_hasAhead_3 rfl rfl ?_
    refine j_icmp_ge (q := 7) 42 h dX4_hasAhead_4 (by decide) rfl hf (fun hf => ?_) (fun hf => ?_)
    · refine j_iconst (q := 43) (0) h dX4_hasAhead_42 ki_0 rfl ?_
      exact j_zret h dX4_hasAhead_43 hf
    · refine j_iload_n (q := 8) h dX4_hasAhead_7 rfl rfl ?_
      refine j_aload_n (q := 9) h dX4_hasAhead_8 rfl rfl ?_
      refine j_gI (q := 12) h uin_X4 rfl rfl (by decide) rfl fl_X4_9 dX4_hasAhead_9 rfl hf (fun hf => ?_)
      refine j_icmp_ge (q := 15) 42 h dX4_hasAhead_12 (by decide) rfl hf (fun hf => ?_) (fun hf => ?_)
      · refine j_iconst (q := 43) (0) h dX4_hasAhead_42 ki_0 rfl ?_
        exact j_zret h dX4_hasAhead_43 hf
      · refine j_iload_n (q := 16) h dX4_hasAhead_15 rfl rfl ?_
        refine j_aload_n (q := 17) h dX4_hasAhead_16 rfl rfl ?_
        refine j_gR (q := 20) h uin_X4 rfl rfl (by decide) rfl fl_X4_19 dX4_hasAhead_17 rfl hf (fun b2 hf => ?_)
        refine j_alen (q := 21) h dX4_hasAhead_20 rfl hf (fun _ hf => ?_)
        refine j_icmp_ge (q := 24) 42 h dX4_hasAhead_21 (by decide) rfl hf (fun hf => ?_) (fun hf => ?_)
        · refine j_iconst (q := 43) (0) h dX4_hasAhead_42 ki_0 rfl ?_
          exact j_zret h dX4_hasAhead_43 hf
        · refine j_aload_n (q := 25) h dX4_hasAhead_24 rfl rfl ?_
          refine j_gR (q := 28) h uin_X4 rfl rfl (by decide) rfl fl_X4_19 dX4_hasAhead_25 rfl hf (fun b4 hf => ?_)
          refine j_iload_n (q := 29) h dX4_hasAhead_28 rfl rfl ?_
          refine j_iald (q := 30) h dX4_hasAhead_29 rfl hf (fun hf => ?_)
          refine j_iload_n (q := 31) h dX4_hasAhead_30 rfl rfl ?_
          refine j_icmp_ne (q := 34) 36 h dX4_hasAhead_31 (by decide) rfl hf (fun hf => ?_) (fun hf => ?_)
          · refine j_iinc (q := 39) _ [_, _, _, _] h dX4_hasAhead_36 rfl (by decide) rfl (kc_1 _) rfl rfl ?_
            refine j_goto 2 h dX4_hasAhead_39 (by decide) ?_
            exact j_sub (lsub_s (lsub_s (lsub_s (lsub_s lsub_0)))) (ih _ _ _ _ _ hf)
          · refine j_iconst (q := 35) (1) h dX4_hasAhead_34 ki_1 rfl ?_
            exact j_zret h dX4_hasAhead_35 hf
set_option maxRecDepth 20000 in
theorem w_X4_hasAhead_0 {g : GT} {K : KT} {P : PT} {res : Int32 × VT} (h : OK g RX4 cX4_hasAhead 4 (some .boolean)) {l0 : Nat} {l1 : Int32} {l2 : Int32} {V : VT} (hf : f_X4_hasAhead K P l0 l1 l2 V = some res) : J g rm_X4_hasAhead (QF g (some (.int res.1)) K P res.2 0 0) 4 K P V 0 0 0 [some (.ref l0), some (.int l1), some (.int l2), none] [] := by
  rw [f_X4_hasAhead] at hf
  refine j_iconst (q := 1) (0) h dX4_hasAhead_0 ki_0 rfl ?_
  refine j_istore_n (q := 2) [_, _, _, _] h dX4_hasAhead_1 rfl (by decide) rfl rfl ?_
  exact j_sub (lsub_s (lsub_s (lsub_s (lsub_s lsub_0)))) (w_X4_hasAhead_2 h FU _ _ _ _ _ hf)
theorem ct_X4_hasAhead (l : Launch) (D : va_G) (T : TT) {K : KT} {P : PT} {l0 : Nat} {l1 : Int32} {l2 : Int32} {V : VT} {res : Int32 × VT} (hf : f_X4_hasAhead K P l0 l1 l2 V = some res) : CT l D T yX4_hasAhead cX4_hasAhead 4 (some .boolean) rm_X4_hasAhead K P V [.ref l0, .int l1, .int l2] (some (.int res.1)) res.2 :=
  fun _ => CT_of pn_X4 (cat_a (cat_i (cat_i cat_0))) (Nat.le_of_ble_eq_true rfl) [some (.ref l0), some (.int l1), some (.int l2), none] rfl (fun _ _ _ h => w_X4_hasAhead_0 h hf)
/-! QuotedLayers$Layer.meansSomething(I)Z -/
def rm_X1_meansSomething : Room := { frames := 1, cells := 0, slots := 0, locals := 23 }
theorem rf_X1_meansSomething_X4_hasAhead : RF rm_X4_hasAhead rm_X1_meansSomething 4 := ⟨⟨by decide, by decide⟩, rfl, rfl⟩
def f_X1_meansSomething_29 (K : KT) (P : PT)  (V : VT) : Option (Int32 × VT) :=
  rB ((1 : Int32)) V
def f_X1_meansSomething (K : KT) (P : PT) (l0 : Nat) (l1 : Int32) (V : VT) : Option (Int32 × VT) :=
  gI K V l0 0 0 fun x1 => if l1 = x1 then (f_X1_meansSomething_29 K P V) else (gI K V l0 0 2 fun x2 => if l1 = x2 then (f_X1_meansSomething_29 K P V) else (gR K P l0 0 3 fun b3 => cV K b3 2 (f_X4_hasAhead K P b3 l1 ((6 : Int32)) V) fun x5 V4 => if x5 = 0 then (rB ((0 : Int32)) V4) else (f_X1_meansSomething_29 K P V4)))
set_option maxRecDepth 20000 in
theorem w_X1_meansSomething_29 {g : GT} {K : KT} {P : PT} {res : Int32 × VT} (h : OK g RX1 cX1_meansSomething 2 (some .boolean))  {V : VT} (hf : f_X1_meansSomething_29 K P  V = some res) : J g rm_X1_meansSomething (QF g (some (.int res.1)) K P res.2 0 0) 2 K P V 0 0 29 [none, none] [] := by
  rw [f_X1_meansSomething_29] at hf
  refine j_iconst (q := 30) (1) h dX1_meansSomething_29 ki_1 rfl ?_
  refine j_goto 34 h dX1_meansSomething_30 (by decide) ?_
  exact j_zret h dX1_meansSomething_34 hf
set_option maxRecDepth 20000 in
theorem w_X1_meansSomething_0 {g : GT} {K : KT} {P : PT} {res : Int32 × VT} (h : OK g RX1 cX1_meansSomething 2 (some .boolean)) {l0 : Nat} {l1 : Int32} {V : VT} (hf : f_X1_meansSomething K P l0 l1 V = some res) : J g rm_X1_meansSomething (QF g (some (.int res.1)) K P res.2 0 0) 2 K P V 0 0 0 [some (.ref l0), some (.int l1)] [] := by
  rw [f_X1_meansSomething] at hf
  refine j_iload_n (q := 1) h dX1_meansSomething_0 rfl rfl ?_
  refine j_aload_n (q := 2) h dX1_meansSomething_1 rfl rfl ?_
  refine j_gI (q := 5) h uin_X1 rfl rfl (by decide) rfl fl_X1_9 dX1_meansSomething_2 rfl hf (fun hf => ?_)
  refine j_icmp_eq (q := 8) 29 h dX1_meansSomething_5 (by decide) rfl hf (fun hf => ?_) (fun hf => ?_)
  · exact j_sub (lsub_n (lsub_n lsub_0)) (w_X1_meansSomething_29 h hf)
  · refine j_iload_n (q := 9) h dX1_meansSomething_8 rfl rfl ?_
    refine j_aload_n (q := 10) h dX1_meansSomething_9 rfl rfl ?_
    refine j_gI (q := 13) h uin_X1 rfl rfl (by decide) rfl fl_X1_18 dX1_meansSomething_10 rfl hf (fun hf => ?_)
    refine j_icmp_eq (q := 16) 29 h dX1_meansSomething_13 (by decide) rfl hf (fun hf => ?_) (fun hf => ?_)
    · exact j_sub (lsub_n (lsub_n lsub_0)) (w_X1_meansSomething_29 h hf)
    · refine j_aload_n (q := 17) h dX1_meansSomething_16 rfl rfl ?_
      refine j_gR (q := 20) h uin_X1 rfl rfl (by decide) rfl fl_X1_26 dX1_meansSomething_17 rfl hf (fun b3 hf => ?_)
      refine j_iload_n (q := 21) h dX1_meansSomething_20 rfl rfl ?_
      refine j_bipush (q := 23) (6) h dX1_meansSomething_21 kb_6 rfl ?_
      refine j_cVi (q := 26) (As := [.int _, .int _]) h rfl hf (fun _ hx => ct_X4_hasAhead _ _ _ hx) ml_X1_71 vw_X4_hasAhead rf_X1_meansSomething_X4_hasAhead ⟨Nat.zero_le _, Nat.zero_le _⟩ (Nat.le_of_ble_eq_true rfl) dX1_meansSomething_23 rfl (fun _ _ hf => ?_)
      refine j_if_eq (q := 29) 33 h dX1_meansSomething_26 (by decide) rfl hf (fun hf => ?_) (fun hf => ?_)
      · refine j_iconst (q := 34) (0) h dX1_meansSomething_33 ki_0 rfl ?_
        exact j_zret h dX1_meansSomething_34 hf
      · exact j_sub (lsub_n (lsub_n lsub_0)) (w_X1_meansSomething_29 h hf)
theorem ct_X1_meansSomething (l : Launch) (D : va_G) (T : TT) {K : KT} {P : PT} {l0 : Nat} {l1 : Int32} {V : VT} {res : Int32 × VT} (hf : f_X1_meansSomething K P l0 l1 V = some res) : CT l D T yX1_meansSomething cX1_meansSomething 2 (some .boolean) rm_X1_meansSomething K P V [.ref l0, .int l1] (some (.int res.1)) res.2 :=
  fun _ => CT_of pn_X1 (cat_a (cat_i cat_0)) (Nat.le_of_ble_eq_true rfl) [some (.ref l0), some (.int l1)] rfl (fun _ _ _ h => w_X1_meansSomething_0 h hf)
/-! QuotedLayers$Layer.digitOf(I)I -/
def rm_X1_digitOf : Room := { frames := 0, cells := 0, slots := 0, locals := 0 }
def f_X1_digitOf (K : KT) (P : PT) (l0 : Int32) (V : VT) : Option (Int32 × VT) :=
  if l0 < ((10 : Int32)) then (some (((48 : Int32)) + l0, V)) else (some ((((97 : Int32)) + l0) - ((10 : Int32)), V))
set_option maxRecDepth 20000 in
theorem w_X1_digitOf_0 {g : GT} {K : KT} {P : PT} {res : Int32 × VT} (h : OK g RX1 cX1_digitOf 1 (some .int)) {l0 : Int32} {V : VT} (hf : f_X1_digitOf K P l0 V = some res) : J g rm_X1_digitOf (QF g (some (.int res.1)) K P res.2 0 0) 1 K P V 0 0 0 [some (.int l0)] [] := by
  rw [f_X1_digitOf] at hf
  refine j_iload_n (q := 1) h dX1_digitOf_0 rfl rfl ?_
  refine j_bipush (q := 3) (10) h dX1_digitOf_1 kb_10 rfl ?_
  refine j_icmp_ge (q := 6) 13 h dX1_digitOf_3 (by decide) rfl hf (fun hf => ?_) (fun hf => ?_)
  · refine j_bipush (q := 15) (97) h dX1_digitOf_13 kb_97 rfl ?_
    refine j_iload_n (q := 16) h dX1_digitOf_15 rfl rfl ?_
    refine j_iadd (q := 17) h dX1_digitOf_16 rfl ?_
    refine j_bipush (q := 19) (10) h dX1_digitOf_17 kb_10 rfl ?_
    refine j_isub (q := 20) h dX1_digitOf_19 rfl ?_
    exact j_iret h dX1_digitOf_20 hf
  · refine j_bipush (q := 8) (48) h dX1_digitOf_6 kb_48 rfl ?_
    refine j_iload_n (q := 9) h dX1_digitOf_8 rfl rfl ?_
    refine j_iadd (q := 10) h dX1_digitOf_9 rfl ?_
    refine j_goto 20 h dX1_digitOf_10 (by decide) ?_
    exact j_iret h dX1_digitOf_20 hf
theorem ct_X1_digitOf (l : Launch) (D : va_G) (T : TT) {K : KT} {P : PT} {l0 : Int32} {V : VT} {res : Int32 × VT} (hf : f_X1_digitOf K P l0 V = some res) : CT l D T yX1_digitOf cX1_digitOf 1 (some .int) rm_X1_digitOf K P V [.int l0] (some (.int res.1)) res.2 :=
  fun _ => CT_of pn_X1 (cat_i cat_0) (Nat.le_of_ble_eq_true rfl) [some (.int l0)] rfl (fun _ _ _ h => w_X1_digitOf_0 h hf)
/-! QuotedLayers$Layer.putMasked(ILQuotedLayers$Row;)V -/
def rm_X1_putMasked : Room := { frames := 1, cells := 0, slots := 0, locals := 21 }
theorem rf_X1_putMasked_X1_digitOf : RF rm_X1_digitOf rm_X1_putMasked 1 := ⟨⟨by decide, by decide⟩, rfl, rfl⟩
theorem rf_X1_putMasked_X4_add : RF rm_X4_add rm_X1_putMasked 2 := ⟨⟨by decide, by decide⟩, rfl, rfl⟩
def f_X1_putMasked_60 (K : KT) (P : PT) (l1 : Int32) (l2 : Nat) (s0 : Nat) (s1 : Int32) (V : VT) : Option (Unit × VT) :=
  cV K s0 2 (f_X4_add K P s0 s1 V) fun u2 V1 => cV K l2 2 (f_X4_add K P l2 l1 V1) fun u4 V3 => some ((), V3)
def f_X1_putMasked (K : KT) (P : PT) (l0 : Nat) (l1 : Int32) (l2 : Nat) (V : VT) : Option (Unit × VT) :=
  gI K V l0 0 1 fun x1 => if x1 = ((3 : Int32)) then (gI K V l0 0 2 fun x5 => cV K l2 2 (f_X4_add K P l2 x5 V) fun u7 V6 => cS (f_X1_digitOf K P (l1 >>> (((4 : Int32)) &&& 31)) V6) fun x9 V8 => cV K l2 2 (f_X4_add K P l2 x9 V8) fun u11 V10 => cS (f_X1_digitOf K P (l1 &&& ((15 : Int32))) V10) fun x13 V12 => cV K l2 2 (f_X4_add K P l2 x13 V12) fun u15 V14 => some ((), V14)) else (gI K V l0 0 1 fun x2 => if x2 = ((1 : Int32)) then (gI K V l0 0 2 fun x4 => f_X1_putMasked_60 K P l1 l2 l2 x4 V) else (gI K V l0 0 0 fun x3 => f_X1_putMasked_60 K P l1 l2 l2 x3 V))
set_option maxRecDepth 20000 in
theorem w_X1_putMasked_60 {g : GT} {K : KT} {P : PT} {res : Unit × VT} (h : OK g RX1 cX1_putMasked 3 none) {l1 : Int32} {l2 : Nat} {s0 : Nat} {s1 : Int32} {V : VT} (hf : f_X1_putMasked_60 K P l1 l2 s0 s1 V = some res) : J g rm_X1_putMasked (QF g none K P res.2 0 0) 3 K P V 0 0 60 [none, some (.int l1), some (.ref l2)] [.int s1, .ref s0] := by
  rw [f_X1_putMasked_60] at hf
  refine j_cVv (q := 63) (As := [.int _]) h rfl hf (fun _ hx => ct_X4_add _ _ _ hx) ml_X1_50 vw_X4_add rf_X1_putMasked_X4_add ⟨Nat.zero_le _, Nat.zero_le _⟩ (Nat.le_of_ble_eq_true rfl) dX1_putMasked_60 rfl (fun _ _ hf => ?_)
  refine j_aload_n (q := 64) h dX1_putMasked_63 rfl rfl ?_
  refine j_iload_n (q := 65) h dX1_putMasked_64 rfl rfl ?_
  refine j_cVv (q := 68) (As := [.int _]) h rfl hf (fun _ hx => ct_X4_add _ _ _ hx) ml_X1_50 vw_X4_add rf_X1_putMasked_X4_add ⟨Nat.zero_le _, Nat.zero_le _⟩ (Nat.le_of_ble_eq_true rfl) dX1_putMasked_65 rfl (fun _ _ hf => ?_)
  exact j_vret h dX1_putMasked_68 hf
set_option maxRecDepth 20000 in
theorem w_X1_putMasked_0 {g : GT} {K : KT} {P : PT} {res : Unit × VT} (h : OK g RX1 cX1_putMasked 3 none) {l0 : Nat} {l1 : Int32} {l2 : Nat} {V : VT} (hf : f_X1_putMasked K P l0 l1 l2 V = some res) : J g rm_X1_putMasked (QF g none K P res.2 0 0) 3 K P V 0 0 0 [some (.ref l0), some (.int l1), some (.ref l2)] [] := by
  rw [f_X1_putMasked] at hf
  refine j_aload_n (q := 1) h dX1_putMasked_0 rfl rfl ?_
  refine j_gI (q := 4) h uin_X1 rfl rfl (by decide) rfl fl_X1_15 dX1_putMasked_1 rfl hf (fun hf => ?_)
  refine j_iconst (q := 5) (3) h dX1_putMasked_4 ki_3 rfl ?_
  refine j_icmp_ne (q := 8) 40 h dX1_putMasked_5 (by decide) rfl hf (fun hf => ?_) (fun hf => ?_)
  · refine j_aload_n (q := 41) h dX1_putMasked_40 rfl rfl ?_
    refine j_aload_n (q := 42) h dX1_putMasked_41 rfl rfl ?_
    refine j_gI (q := 45) h uin_X1 rfl rfl (by decide) rfl fl_X1_15 dX1_putMasked_42 rfl hf (fun hf => ?_)
    refine j_iconst (q := 46) (1) h dX1_putMasked_45 ki_1 rfl ?_
    refine j_icmp_ne (q := 49) 56 h dX1_putMasked_46 (by decide) rfl hf (fun hf => ?_) (fun hf => ?_)
    · refine j_aload_n (q := 57) h dX1_putMasked_56 rfl rfl ?_
      refine j_gI (q := 60) h uin_X1 rfl rfl (by decide) rfl fl_X1_9 dX1_putMasked_57 rfl hf (fun hf => ?_)
      exact j_sub (lsub_n (lsub_s (lsub_s lsub_0))) (w_X1_putMasked_60 h hf)
    · refine j_aload_n (q := 50) h dX1_putMasked_49 rfl rfl ?_
      refine j_gI (q := 53) h uin_X1 rfl rfl (by decide) rfl fl_X1_18 dX1_putMasked_50 rfl hf (fun hf => ?_)
      refine j_goto 60 h dX1_putMasked_53 (by decide) ?_
      exact j_sub (lsub_n (lsub_s (lsub_s lsub_0))) (w_X1_putMasked_60 h hf)
  · refine j_aload_n (q := 9) h dX1_putMasked_8 rfl rfl ?_
    refine j_aload_n (q := 10) h dX1_putMasked_9 rfl rfl ?_
    refine j_gI (q := 13) h uin_X1 rfl rfl (by decide) rfl fl_X1_18 dX1_putMasked_10 rfl hf (fun hf => ?_)
    refine j_cVv (q := 16) (As := [.int _]) h rfl hf (fun _ hx => ct_X4_add _ _ _ hx) ml_X1_50 vw_X4_add rf_X1_putMasked_X4_add ⟨Nat.zero_le _, Nat.zero_le _⟩ (Nat.le_of_ble_eq_true rfl) dX1_putMasked_13 rfl (fun _ _ hf => ?_)
    refine j_aload_n (q := 17) h dX1_putMasked_16 rfl rfl ?_
    refine j_iload_n (q := 18) h dX1_putMasked_17 rfl rfl ?_
    refine j_iconst (q := 19) (4) h dX1_putMasked_18 ki_4 rfl ?_
    refine j_ishr (q := 20) h dX1_putMasked_19 rfl ?_
    refine j_cSi (q := 23) (As := [.int _]) h rfl hf (fun _ hx => ct_X1_digitOf _ _ _ hx) ml_X1_75 sw_X1_digitOf rf_X1_putMasked_X1_digitOf ⟨Nat.zero_le _, Nat.zero_le _⟩ (Nat.le_of_ble_eq_true rfl) dX1_putMasked_20 rfl (fun _ _ hf => ?_)
    refine j_cVv (q := 26) (As := [.int _]) h rfl hf (fun _ hx => ct_X4_add _ _ _ hx) ml_X1_50 vw_X4_add rf_X1_putMasked_X4_add ⟨Nat.zero_le _, Nat.zero_le _⟩ (Nat.le_of_ble_eq_true rfl) dX1_putMasked_23 rfl (fun _ _ hf => ?_)
    refine j_aload_n (q := 27) h dX1_putMasked_26 rfl rfl ?_
    refine j_iload_n (q := 28) h dX1_putMasked_27 rfl rfl ?_
    refine j_bipush (q := 30) (15) h dX1_putMasked_28 kb_15 rfl ?_
    refine j_iand (q := 31) h dX1_putMasked_30 rfl ?_
    refine j_cSi (q := 34) (As := [.int _]) h rfl hf (fun _ hx => ct_X1_digitOf _ _ _ hx) ml_X1_75 sw_X1_digitOf rf_X1_putMasked_X1_digitOf ⟨Nat.zero_le _, Nat.zero_le _⟩ (Nat.le_of_ble_eq_true rfl) dX1_putMasked_31 rfl (fun _ _ hf => ?_)
    refine j_cVv (q := 37) (As := [.int _]) h rfl hf (fun _ hx => ct_X4_add _ _ _ hx) ml_X1_50 vw_X4_add rf_X1_putMasked_X4_add ⟨Nat.zero_le _, Nat.zero_le _⟩ (Nat.le_of_ble_eq_true rfl) dX1_putMasked_34 rfl (fun _ _ hf => ?_)
    refine j_goto 68 h dX1_putMasked_37 (by decide) ?_
    exact j_vret h dX1_putMasked_68 hf
theorem ct_X1_putMasked (l : Launch) (D : va_G) (T : TT) {K : KT} {P : PT} {l0 : Nat} {l1 : Int32} {l2 : Nat} {V : VT} {res : Unit × VT} (hf : f_X1_putMasked K P l0 l1 l2 V = some res) : CT l D T yX1_putMasked cX1_putMasked 3 none rm_X1_putMasked K P V [.ref l0, .int l1, .ref l2] none res.2 :=
  fun _ => CT_of pn_X1 (cat_a (cat_i (cat_a cat_0))) (Nat.le_of_ble_eq_true rfl) [some (.ref l0), some (.int l1), some (.ref l2)] rfl (fun _ _ _ h => w_X1_putMasked_0 h hf)
