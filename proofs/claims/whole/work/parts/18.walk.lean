/-! QuotedLayersModel.rows(I)I -/
def rm_X7_rows : Room := { frames := 5, cells := 0, slots := 0, locals := 116 }
theorem rf_X7_rows_X7_fitsRow : RF rm_X7_fitsRow rm_X7_rows 5 := ⟨⟨by decide, by decide⟩, rfl, rfl⟩
theorem rf_X7_rows_X7_isAsAtFirst : RF rm_X7_isAsAtFirst rm_X7_rows 2 := ⟨⟨by decide, by decide⟩, rfl, rfl⟩
def f_X7_rows_236 (K : KT) (P : PT) (k14 : Nat → Int32 → Int32 → Int32 → VT → Option (Int32 × VT)) (k22 : Nat → Int32 → Int32 → Int32 → Int32 → VT → Option (Int32 × VT)) (l0 : Nat) (l1 : Int32) (l2 : Int32) (l3 : Int32) (l4 : Int32) (V : VT) : Option (Int32 × VT) :=
  k22 l0 l1 l2 l3 (l4 + (1 : Int32)) V
def f_X7_rows_157 (K : KT) (P : PT) (k14 : Nat → Int32 → Int32 → Int32 → VT → Option (Int32 × VT)) (k22 : Nat → Int32 → Int32 → Int32 → Int32 → VT → Option (Int32 × VT)) (l0 : Nat) (l1 : Int32) (l2 : Int32) (l3 : Int32) (l4 : Int32) (l5 : Int32) (l6 : Int32) (l7 : Int32) (s0 : Int32) (V : VT) : Option (Int32 × VT) :=
  if s0 = 0 then (f_X7_rows_236 K P k14 k22 l0 l1 l2 l3 l4 V) else (cV K l0 5 (f_X7_fitsRow K P l0 l5 l6 l7 V) fun x2 V1 => if x2 = 0 then (f_X7_rows_236 K P k14 k22 l0 l1 l2 l3 l4 V1) else (if l2 = l1 then (if l3 = ((1 : Int32)) then (some (((10 : Int32)) + l5, V1)) else (if l3 = ((2 : Int32)) then (some ((((100 : Int32)) + (((10 : Int32)) * l5)) + l6, V1)) else (some (((((1000 : Int32)) + (((100 : Int32)) * l5)) + (((10 : Int32)) * l6)) + l7, V1)))) else (f_X7_rows_236 K P k14 k22 l0 l1 (l2 + (1 : Int32)) l3 l4 V1)))
def f_X7_rows_156 (K : KT) (P : PT) (k14 : Nat → Int32 → Int32 → Int32 → VT → Option (Int32 × VT)) (k22 : Nat → Int32 → Int32 → Int32 → Int32 → VT → Option (Int32 × VT)) (l0 : Nat) (l1 : Int32) (l2 : Int32) (l3 : Int32) (l4 : Int32) (l5 : Int32) (l6 : Int32) (l7 : Int32) (V : VT) : Option (Int32 × VT) :=
  f_X7_rows_157 K P k14 k22 l0 l1 l2 l3 l4 l5 l6 l7 ((0 : Int32)) V
def f_X7_rows_152 (K : KT) (P : PT) (k14 : Nat → Int32 → Int32 → Int32 → VT → Option (Int32 × VT)) (k22 : Nat → Int32 → Int32 → Int32 → Int32 → VT → Option (Int32 × VT)) (l0 : Nat) (l1 : Int32) (l2 : Int32) (l3 : Int32) (l4 : Int32) (l5 : Int32) (l6 : Int32) (l7 : Int32) (V : VT) : Option (Int32 × VT) :=
  f_X7_rows_157 K P k14 k22 l0 l1 l2 l3 l4 l5 l6 l7 ((1 : Int32)) V
def f_X7_rows_138 (K : KT) (P : PT) (k14 : Nat → Int32 → Int32 → Int32 → VT → Option (Int32 × VT)) (k22 : Nat → Int32 → Int32 → Int32 → Int32 → VT → Option (Int32 × VT)) (l0 : Nat) (l1 : Int32) (l2 : Int32) (l3 : Int32) (l4 : Int32) (l5 : Int32) (l6 : Int32) (l7 : Int32) (V : VT) : Option (Int32 × VT) :=
  if l7 < 0 then (f_X7_rows_152 K P k14 k22 l0 l1 l2 l3 l4 l5 l6 l7 V) else (cV K l0 5 (f_X7_isAsAtFirst K P l0 l7 V) fun x2 V1 => if x2 = 0 then (f_X7_rows_152 K P k14 k22 l0 l1 l2 l3 l4 l5 l6 l7 V1) else (f_X7_rows_156 K P k14 k22 l0 l1 l2 l3 l4 l5 l6 l7 V1))
def f_X7_rows_108 (K : KT) (P : PT) (k14 : Nat → Int32 → Int32 → Int32 → VT → Option (Int32 × VT)) (k22 : Nat → Int32 → Int32 → Int32 → Int32 → VT → Option (Int32 × VT)) (l0 : Nat) (l1 : Int32) (l2 : Int32) (l3 : Int32) (l4 : Int32) (l5 : Int32) (l6 : Int32) (l7 : Int32) (s0 : Int32) (V : VT) : Option (Int32 × VT) :=
  if s0 = 0 then (f_X7_rows_156 K P k14 k22 l0 l1 l2 l3 l4 l5 l6 l7 V) else (cV K l0 5 (f_X7_isAsAtFirst K P l0 l5 V) fun x2 V1 => if x2 = 0 then (if l6 < 0 then (f_X7_rows_138 K P k14 k22 l0 l1 l2 l3 l4 l5 l6 l7 V1) else (cV K l0 5 (f_X7_isAsAtFirst K P l0 l6 V1) fun x4 V3 => if x4 = 0 then (f_X7_rows_138 K P k14 k22 l0 l1 l2 l3 l4 l5 l6 l7 V3) else (f_X7_rows_156 K P k14 k22 l0 l1 l2 l3 l4 l5 l6 l7 V3))) else (f_X7_rows_156 K P k14 k22 l0 l1 l2 l3 l4 l5 l6 l7 V1))
def f_X7_rows_103 (K : KT) (P : PT) (k14 : Nat → Int32 → Int32 → Int32 → VT → Option (Int32 × VT)) (k22 : Nat → Int32 → Int32 → Int32 → Int32 → VT → Option (Int32 × VT)) (l0 : Nat) (l1 : Int32) (l2 : Int32) (l3 : Int32) (l4 : Int32) (l5 : Int32) (l6 : Int32) (l7 : Int32) (V : VT) : Option (Int32 × VT) :=
  f_X7_rows_108 K P k14 k22 l0 l1 l2 l3 l4 l5 l6 l7 ((1 : Int32)) V
def f_X7_rows_68 (K : KT) (P : PT) (k14 : Nat → Int32 → Int32 → Int32 → VT → Option (Int32 × VT)) (k22 : Nat → Int32 → Int32 → Int32 → Int32 → VT → Option (Int32 × VT)) (l0 : Nat) (l1 : Int32) (l2 : Int32) (l3 : Int32) (l4 : Int32) (l5 : Int32) (l6 : Int32) (s0 : Int32) (V : VT) : Option (Int32 × VT) :=
  if l3 = ((1 : Int32)) then (dG ((25 : Int32)) (if (l4 - l4 / ((25 : Int32)) * ((25 : Int32))) = 0 then (f_X7_rows_108 K P k14 k22 l0 l1 l2 l3 l4 l5 l6 s0 ((1 : Int32)) V) else (f_X7_rows_108 K P k14 k22 l0 l1 l2 l3 l4 l5 l6 s0 ((0 : Int32)) V))) else (if l3 = ((3 : Int32)) then (f_X7_rows_103 K P k14 k22 l0 l1 l2 l3 l4 l5 l6 s0 V) else (dG ((5 : Int32)) (if (l4 - l4 / ((5 : Int32)) * ((5 : Int32))) = 0 then (f_X7_rows_103 K P k14 k22 l0 l1 l2 l3 l4 l5 l6 s0 V) else (f_X7_rows_108 K P k14 k22 l0 l1 l2 l3 l4 l5 l6 s0 ((0 : Int32)) V))))
def f_X7_rows_52 (K : KT) (P : PT) (k14 : Nat → Int32 → Int32 → Int32 → VT → Option (Int32 × VT)) (k22 : Nat → Int32 → Int32 → Int32 → Int32 → VT → Option (Int32 × VT)) (l0 : Nat) (l1 : Int32) (l2 : Int32) (l3 : Int32) (l4 : Int32) (l5 : Int32) (s0 : Int32) (V : VT) : Option (Int32 × VT) :=
  if ((2 : Int32)) < l3 then (dG ((5 : Int32)) (f_X7_rows_68 K P k14 k22 l0 l1 l2 l3 l4 l5 s0 (l4 - l4 / ((5 : Int32)) * ((5 : Int32))) V)) else (f_X7_rows_68 K P k14 k22 l0 l1 l2 l3 l4 l5 s0 ((-6 : Int32)) V)
def f_X7_rows_22 (K : KT) (P : PT) (k14 : Nat → Int32 → Int32 → Int32 → VT → Option (Int32 × VT)) : Nat → Nat → Int32 → Int32 → Int32 → Int32 → VT → Option (Int32 × VT)
  | 0, _, _, _, _, _, _ => none
  | n + 1, l0, l1, l2, l3, l4, V => if l4 < ((125 : Int32)) then (dG ((25 : Int32)) (if ((1 : Int32)) < l3 then (dG ((5 : Int32)) (dG ((5 : Int32)) (f_X7_rows_52 K P k14 (f_X7_rows_22 K P k14 n) l0 l1 l2 l3 l4 (l4 / ((25 : Int32))) ((l4 / ((5 : Int32))) - (l4 / ((5 : Int32))) / ((5 : Int32)) * ((5 : Int32))) V))) else (f_X7_rows_52 K P k14 (f_X7_rows_22 K P k14 n) l0 l1 l2 l3 l4 (l4 / ((25 : Int32))) ((-6 : Int32)) V))) else (k14 l0 l1 l2 (l3 + (1 : Int32)) V)
def f_X7_rows_14 (K : KT) (P : PT) : Nat → Nat → Int32 → Int32 → Int32 → VT → Option (Int32 × VT)
  | 0, _, _, _, _, _ => none
  | n + 1, l0, l1, l2, l3, V => if l3 < ((4 : Int32)) then (f_X7_rows_22 K P (f_X7_rows_14 K P n) FU l0 l1 l2 l3 ((0 : Int32)) V) else (if l1 = ((-1 : Int32)) then (some (l2, V)) else (some ((-6 : Int32), V)))
def f_X7_rows (K : KT) (P : PT) (l0 : Nat) (l1 : Int32) (V : VT) : Option (Int32 × VT) :=
  gI K V l0 5 0 fun x1 => if x1 = 0 then (some ((-3 : Int32), V)) else (f_X7_rows_14 K P FU l0 l1 ((0 : Int32)) ((1 : Int32)) V)
set_option maxRecDepth 20000 in
theorem w_X7_rows_236 {g : GT} {K : KT} {P : PT} {res : Int32 × VT} (h : OK g RX7 cX7_rows 10 (some .int)) {k14 : Nat → Int32 → Int32 → Int32 → VT → Option (Int32 × VT)} {k22 : Nat → Int32 → Int32 → Int32 → Int32 → VT → Option (Int32 × VT)} (hk14 : ∀ (l0 : Nat) (l1 : Int32) (l2 : Int32) (l3 : Int32) (V : VT), k14 l0 l1 l2 l3 V = some res → J g rm_X7_rows (QF g (some (.int res.1)) K P res.2 0 0) 10 K P V 0 0 14 [some (.ref l0), some (.int l1), some (.int l2), some (.int l3), none, none, none, none, none, none] []) (hk22 : ∀ (l0 : Nat) (l1 : Int32) (l2 : Int32) (l3 : Int32) (l4 : Int32) (V : VT), k22 l0 l1 l2 l3 l4 V = some res → J g rm_X7_rows (QF g (some (.int res.1)) K P res.2 0 0) 10 K P V 0 0 22 [some (.ref l0), some (.int l1), some (.int l2), some (.int l3), some (.int l4), none, none, none, none, none] []) {l0 : Nat} {l1 : Int32} {l2 : Int32} {l3 : Int32} {l4 : Int32} {V : VT} (hf : f_X7_rows_236 K P k14 k22 l0 l1 l2 l3 l4 V = some res) : J g rm_X7_rows (QF g (some (.int res.1)) K P res.2 0 0) 10 K P V 0 0 236 [some (.ref l0), some (.int l1), some (.int l2), some (.int l3), some (.int l4), none, none, none, none, none] [] := by
  rw [f_X7_rows_236] at hf
  refine j_iinc (q := 239) _ [_, _, _, _, _, _, _, _, _, _] h dX7_rows_236 rfl (by decide) rfl (kc_1 _) rfl rfl ?_
  refine j_goto 22 h dX7_rows_239 (by decide) ?_
  exact j_sub (lsub_s (lsub_s (lsub_s (lsub_s (lsub_s (lsub_n (lsub_n (lsub_n (lsub_n (lsub_n lsub_0)))))))))) (hk22 _ _ _ _ _ _ hf)
set_option maxRecDepth 20000 in
theorem w_X7_rows_157 {g : GT} {K : KT} {P : PT} {res : Int32 × VT} (h : OK g RX7 cX7_rows 10 (some .int)) {k14 : Nat → Int32 → Int32 → Int32 → VT → Option (Int32 × VT)} {k22 : Nat → Int32 → Int32 → Int32 → Int32 → VT → Option (Int32 × VT)} (hk14 : ∀ (l0 : Nat) (l1 : Int32) (l2 : Int32) (l3 : Int32) (V : VT), k14 l0 l1 l2 l3 V = some res → J g rm_X7_rows (QF g (some (.int res.1)) K P res.2 0 0) 10 K P V 0 0 14 [some (.ref l0), some (.int l1), some (.int l2), some (.int l3), none, none, none, none, none, none] []) (hk22 : ∀ (l0 : Nat) (l1 : Int32) (l2 : Int32) (l3 : Int32) (l4 : Int32) (V : VT), k22 l0 l1 l2 l3 l4 V = some res → J g rm_X7_rows (QF g (some (.int res.1)) K P res.2 0 0) 10 K P V 0 0 22 [some (.ref l0), some (.int l1), some (.int l2), some (.int l3), some (.int l4), none, none, none, none, none] []) {l0 : Nat} {l1 : Int32} {l2 : Int32} {l3 : Int32} {l4 : Int32} {l5 : Int32} {l6 : Int32} {l7 : Int32} {s0 : Int32} {V : VT} (hf : f_X7_rows_157 K P k14 k22 l0 l1 l2 l3 l4 l5 l6 l7 s0 V = some res) : J g rm_X7_rows (QF g (some (.int res.1)) K P res.2 0 0) 10 K P V 0 0 157 [some (.ref l0), some (.int l1), some (.int l2), some (.int l3), some (.int l4), some (.int l5), some (.int l6), some (.int l7), none, none] [.int s0] := by
  rw [f_X7_rows_157] at hf
  refine j_istore (q := 159) [_, _, _, _, _, _, _, _, _, _] h dX7_rows_157 rfl (by decide) rfl rfl ?_
  refine j_iload (q := 161) h dX7_rows_159 rfl rfl ?_
  refine j_if_eq (q := 164) 236 h dX7_rows_161 (by decide) rfl hf (fun hf => ?_) (fun hf => ?_)
  · exact j_sub (lsub_s (lsub_s (lsub_s (lsub_s (lsub_s (lsub_n (lsub_n (lsub_n (lsub_n (lsub_n lsub_0)))))))))) (w_X7_rows_236 h hk14 hk22 hf)
  · refine j_aload_n (q := 165) h dX7_rows_164 rfl rfl ?_
    refine j_iload (q := 167) h dX7_rows_165 rfl rfl ?_
    refine j_iload (q := 169) h dX7_rows_167 rfl rfl ?_
    refine j_iload (q := 171) h dX7_rows_169 rfl rfl ?_
    refine j_cVi (q := 174) (As := [.int _, .int _, .int _]) h rfl hf (fun _ hx => ct_X7_fitsRow _ _ _ hx) ml_X7_155 vw_X7_fitsRow rf_X7_rows_X7_fitsRow ⟨Nat.zero_le _, Nat.zero_le _⟩ (Nat.le_of_ble_eq_true rfl) dX7_rows_171 rfl (fun _ _ hf => ?_)
    refine j_if_eq (q := 177) 236 h dX7_rows_174 (by decide) rfl hf (fun hf => ?_) (fun hf => ?_)
    · exact j_sub (lsub_s (lsub_s (lsub_s (lsub_s (lsub_s (lsub_n (lsub_n (lsub_n (lsub_n (lsub_n lsub_0)))))))))) (w_X7_rows_236 h hk14 hk22 hf)
    · refine j_iload_n (q := 178) h dX7_rows_177 rfl rfl ?_
      refine j_iload_n (q := 179) h dX7_rows_178 rfl rfl ?_
      refine j_icmp_ne (q := 182) 233 h dX7_rows_179 (by decide) rfl hf (fun hf => ?_) (fun hf => ?_)
      · refine j_iinc (q := 236) _ [_, _, _, _, _, _, _, _, _, _] h dX7_rows_233 rfl (by decide) rfl (kc_1 _) rfl rfl ?_
        exact j_sub (lsub_s (lsub_s (lsub_s (lsub_s (lsub_s (lsub_n (lsub_n (lsub_n (lsub_n (lsub_n lsub_0)))))))))) (w_X7_rows_236 h hk14 hk22 hf)
      · refine j_iload_n (q := 183) h dX7_rows_182 rfl rfl ?_
        refine j_iconst (q := 184) (1) h dX7_rows_183 ki_1 rfl ?_
        refine j_icmp_ne (q := 187) 195 h dX7_rows_184 (by decide) rfl hf (fun hf => ?_) (fun hf => ?_)
        · refine j_iload_n (q := 196) h dX7_rows_195 rfl rfl ?_
          refine j_iconst (q := 197) (2) h dX7_rows_196 ki_2 rfl ?_
          refine j_icmp_ne (q := 200) 214 h dX7_rows_197 (by decide) rfl hf (fun hf => ?_) (fun hf => ?_)
          · refine j_sipush (q := 217) (1000) h dX7_rows_214 ks_1000 rfl ?_
            refine j_bipush (q := 219) (100) h dX7_rows_217 kb_100 rfl ?_
            refine j_iload (q := 221) h dX7_rows_219 rfl rfl ?_
            refine j_imul (q := 222) h dX7_rows_221 rfl ?_
            refine j_iadd (q := 223) h dX7_rows_222 rfl ?_
            refine j_bipush (q := 225) (10) h dX7_rows_223 kb_10 rfl ?_
            refine j_iload (q := 227) h dX7_rows_225 rfl rfl ?_
            refine j_imul (q := 228) h dX7_rows_227 rfl ?_
            refine j_iadd (q := 229) h dX7_rows_228 rfl ?_
            refine j_iload (q := 231) h dX7_rows_229 rfl rfl ?_
            refine j_iadd (q := 232) h dX7_rows_231 rfl ?_
            exact j_iret h dX7_rows_232 hf
          · refine j_bipush (q := 202) (100) h dX7_rows_200 kb_100 rfl ?_
            refine j_bipush (q := 204) (10) h dX7_rows_202 kb_10 rfl ?_
            refine j_iload (q := 206) h dX7_rows_204 rfl rfl ?_
            refine j_imul (q := 207) h dX7_rows_206 rfl ?_
            refine j_iadd (q := 208) h dX7_rows_207 rfl ?_
            refine j_iload (q := 210) h dX7_rows_208 rfl rfl ?_
            refine j_iadd (q := 211) h dX7_rows_210 rfl ?_
            refine j_goto 232 h dX7_rows_211 (by decide) ?_
            exact j_iret h dX7_rows_232 hf
        · refine j_bipush (q := 189) (10) h dX7_rows_187 kb_10 rfl ?_
          refine j_iload (q := 191) h dX7_rows_189 rfl rfl ?_
          refine j_iadd (q := 192) h dX7_rows_191 rfl ?_
          refine j_goto 232 h dX7_rows_192 (by decide) ?_
          exact j_iret h dX7_rows_232 hf
set_option maxRecDepth 20000 in
theorem w_X7_rows_156 {g : GT} {K : KT} {P : PT} {res : Int32 × VT} (h : OK g RX7 cX7_rows 10 (some .int)) {k14 : Nat → Int32 → Int32 → Int32 → VT → Option (Int32 × VT)} {k22 : Nat → Int32 → Int32 → Int32 → Int32 → VT → Option (Int32 × VT)} (hk14 : ∀ (l0 : Nat) (l1 : Int32) (l2 : Int32) (l3 : Int32) (V : VT), k14 l0 l1 l2 l3 V = some res → J g rm_X7_rows (QF g (some (.int res.1)) K P res.2 0 0) 10 K P V 0 0 14 [some (.ref l0), some (.int l1), some (.int l2), some (.int l3), none, none, none, none, none, none] []) (hk22 : ∀ (l0 : Nat) (l1 : Int32) (l2 : Int32) (l3 : Int32) (l4 : Int32) (V : VT), k22 l0 l1 l2 l3 l4 V = some res → J g rm_X7_rows (QF g (some (.int res.1)) K P res.2 0 0) 10 K P V 0 0 22 [some (.ref l0), some (.int l1), some (.int l2), some (.int l3), some (.int l4), none, none, none, none, none] []) {l0 : Nat} {l1 : Int32} {l2 : Int32} {l3 : Int32} {l4 : Int32} {l5 : Int32} {l6 : Int32} {l7 : Int32} {V : VT} (hf : f_X7_rows_156 K P k14 k22 l0 l1 l2 l3 l4 l5 l6 l7 V = some res) : J g rm_X7_rows (QF g (some (.int res.1)) K P res.2 0 0) 10 K P V 0 0 156 [some (.ref l0), some (.int l1), some (.int l2), some (.int l3), some (.int l4), some (.int l5), some (.int l6), some (.int l7), none, none] [] := by
  rw [f_X7_rows_156] at hf
  refine j_iconst (q := 157) (0) h dX7_rows_156 ki_0 rfl ?_
  exact j_sub (lsub_s (lsub_s (lsub_s (lsub_s (lsub_s (lsub_s (lsub_s (lsub_s (lsub_n (lsub_n lsub_0)))))))))) (w_X7_rows_157 h hk14 hk22 hf)
set_option maxRecDepth 20000 in
theorem w_X7_rows_152 {g : GT} {K : KT} {P : PT} {res : Int32 × VT} (h : OK g RX7 cX7_rows 10 (some .int)) {k14 : Nat → Int32 → Int32 → Int32 → VT → Option (Int32 × VT)} {k22 : Nat → Int32 → Int32 → Int32 → Int32 → VT → Option (Int32 × VT)} (hk14 : ∀ (l0 : Nat) (l1 : Int32) (l2 : Int32) (l3 : Int32) (V : VT), k14 l0 l1 l2 l3 V = some res → J g rm_X7_rows (QF g (some (.int res.1)) K P res.2 0 0) 10 K P V 0 0 14 [some (.ref l0), some (.int l1), some (.int l2), some (.int l3), none, none, none, none, none, none] []) (hk22 : ∀ (l0 : Nat) (l1 : Int32) (l2 : Int32) (l3 : Int32) (l4 : Int32) (V : VT), k22 l0 l1 l2 l3 l4 V = some res → J g rm_X7_rows (QF g (some (.int res.1)) K P res.2 0 0) 10 K P V 0 0 22 [some (.ref l0), some (.int l1), some (.int l2), some (.int l3), some (.int l4), none, none, none, none, none] []) {l0 : Nat} {l1 : Int32} {l2 : Int32} {l3 : Int32} {l4 : Int32} {l5 : Int32} {l6 : Int32} {l7 : Int32} {V : VT} (hf : f_X7_rows_152 K P k14 k22 l0 l1 l2 l3 l4 l5 l6 l7 V = some res) : J g rm_X7_rows (QF g (some (.int res.1)) K P res.2 0 0) 10 K P V 0 0 152 [some (.ref l0), some (.int l1), some (.int l2), some (.int l3), some (.int l4), some (.int l5), some (.int l6), some (.int l7), none, none] [] := by
  rw [f_X7_rows_152] at hf
  refine j_iconst (q := 153) (1) h dX7_rows_152 ki_1 rfl ?_
  refine j_goto 157 h dX7_rows_153 (by decide) ?_
  exact j_sub (lsub_s (lsub_s (lsub_s (lsub_s (lsub_s (lsub_s (lsub_s (lsub_s (lsub_n (lsub_n lsub_0)))))))))) (w_X7_rows_157 h hk14 hk22 hf)
set_option maxRecDepth 20000 in
theorem w_X7_rows_138 {g : GT} {K : KT} {P : PT} {res : Int32 × VT} (h : OK g RX7 cX7_rows 10 (some .int)) {k14 : Nat → Int32 → Int32 → Int32 → VT → Option (Int32 × VT)} {k22 : Nat → Int32 → Int32 → Int32 → Int32 → VT → Option (Int32 × VT)} (hk14 : ∀ (l0 : Nat) (l1 : Int32) (l2 : Int32) (l3 : Int32) (V : VT), k14 l0 l1 l2 l3 V = some res → J g rm_X7_rows (QF g (some (.int res.1)) K P res.2 0 0) 10 K P V 0 0 14 [some (.ref l0), some (.int l1), some (.int l2), some (.int l3), none, none, none, none, none, none] []) (hk22 : ∀ (l0 : Nat) (l1 : Int32) (l2 : Int32) (l3 : Int32) (l4 : Int32) (V : VT), k22 l0 l1 l2 l3 l4 V = some res → J g rm_X7_rows (QF g (some (.int res.1)) K P res.2 0 0) 10 K P V 0 0 22 [some (.ref l0), some (.int l1), some (.int l2), some (.int l3), some (.int l4), none, none, none, none, none] []) {l0 : Nat} {l1 : Int32} {l2 : Int32} {l3 : Int32} {l4 : Int32} {l5 : Int32} {l6 : Int32} {l7 : Int32} {V : VT} (hf : f_X7_rows_138 K P k14 k22 l0 l1 l2 l3 l4 l5 l6 l7 V = some res) : J g rm_X7_rows (QF g (some (.int res.1)) K P res.2 0 0) 10 K P V 0 0 138 [some (.ref l0), some (.int l1), some (.int l2), some (.int l3), some (.int l4), some (.int l5), some (.int l6), some (.int l7), none, none] [] := by
  rw [f_X7_rows_138] at hf
  refine j_iload (q := 140) h dX7_rows_138 rfl rfl ?_
  refine j_if_lt (q := 143) 152 h dX7_rows_140 (by decide) rfl hf (fun hf => ?_) (fun hf => ?_)
  · exact j_sub (lsub_s (lsub_s (lsub_s (lsub_s (lsub_s (lsub_s (lsub_s (lsub_s (lsub_n (lsub_n lsub_0)))))))))) (w_X7_rows_152 h hk14 hk22 hf)
  · refine j_aload_n (q := 144) h dX7_rows_143 rfl rfl ?_
    refine j_iload (q := 146) h dX7_rows_144 rfl rfl ?_
    refine j_cVi (q := 149) (As := [.int _]) h rfl hf (fun _ hx => ct_X7_isAsAtFirst _ _ _ hx) ml_X7_152 vw_X7_isAsAtFirst rf_X7_rows_X7_isAsAtFirst ⟨Nat.zero_le _, Nat.zero_le _⟩ (Nat.le_of_ble_eq_true rfl) dX7_rows_146 rfl (fun _ _ hf => ?_)
    refine j_if_ne (q := 152) 156 h dX7_rows_149 (by decide) rfl hf (fun hf => ?_) (fun hf => ?_)
    · exact j_sub (lsub_s (lsub_s (lsub_s (lsub_s (lsub_s (lsub_s (lsub_s (lsub_s (lsub_n (lsub_n lsub_0)))))))))) (w_X7_rows_156 h hk14 hk22 hf)
    · exact j_sub (lsub_s (lsub_s (lsub_s (lsub_s (lsub_s (lsub_s (lsub_s (lsub_s (lsub_n (lsub_n lsub_0)))))))))) (w_X7_rows_152 h hk14 hk22 hf)
set_option maxRecDepth 20000 in
theorem w_X7_rows_108 {g : GT} {K : KT} {P : PT} {res : Int32 × VT} (h : OK g RX7 cX7_rows 10 (some .int)) {k14 : Nat → Int32 → Int32 → Int32 → VT → Option (Int32 × VT)} {k22 : Nat → Int32 → Int32 → Int32 → Int32 → VT → Option (Int32 × VT)} (hk14 : ∀ (l0 : Nat) (l1 : Int32) (l2 : Int32) (l3 : Int32) (V : VT), k14 l0 l1 l2 l3 V = some res → J g rm_X7_rows (QF g (some (.int res.1)) K P res.2 0 0) 10 K P V 0 0 14 [some (.ref l0), some (.int l1), some (.int l2), some (.int l3), none, none, none, none, none, none] []) (hk22 : ∀ (l0 : Nat) (l1 : Int32) (l2 : Int32) (l3 : Int32) (l4 : Int32) (V : VT), k22 l0 l1 l2 l3 l4 V = some res → J g rm_X7_rows (QF g (some (.int res.1)) K P res.2 0 0) 10 K P V 0 0 22 [some (.ref l0), some (.int l1), some (.int l2), some (.int l3), some (.int l4), none, none, none, none, none] []) {l0 : Nat} {l1 : Int32} {l2 : Int32} {l3 : Int32} {l4 : Int32} {l5 : Int32} {l6 : Int32} {l7 : Int32} {s0 : Int32} {V : VT} (hf : f_X7_rows_108 K P k14 k22 l0 l1 l2 l3 l4 l5 l6 l7 s0 V = some res) : J g rm_X7_rows (QF g (some (.int res.1)) K P res.2 0 0) 10 K P V 0 0 108 [some (.ref l0), some (.int l1), some (.int l2), some (.int l3), some (.int l4), some (.int l5), some (.int l6), some (.int l7), none, none] [.int s0] := by
  rw [f_X7_rows_108] at hf
  refine j_istore (q := 110) [_, _, _, _, _, _, _, _, _, _] h dX7_rows_108 rfl (by decide) rfl rfl ?_
  refine j_iload (q := 112) h dX7_rows_110 rfl rfl ?_
  refine j_if_eq (q := 115) 156 h dX7_rows_112 (by decide) rfl hf (fun hf => ?_) (fun hf => ?_)
  · exact j_sub (lsub_s (lsub_s (lsub_s (lsub_s (lsub_s (lsub_s (lsub_s (lsub_s (lsub_n (lsub_n lsub_0)))))))))) (w_X7_rows_156 h hk14 hk22 hf)
  · refine j_aload_n (q := 116) h dX7_rows_115 rfl rfl ?_
    refine j_iload (q := 118) h dX7_rows_116 rfl rfl ?_
    refine j_cVi (q := 121) (As := [.int _]) h rfl hf (fun _ hx => ct_X7_isAsAtFirst _ _ _ hx) ml_X7_152 vw_X7_isAsAtFirst rf_X7_rows_X7_isAsAtFirst ⟨Nat.zero_le _, Nat.zero_le _⟩ (Nat.le_of_ble_eq_true rfl) dX7_rows_118 rfl (fun _ _ hf => ?_)
    refine j_if_ne (q := 124) 156 h dX7_rows_121 (by decide) rfl hf (fun hf => ?_) (fun hf => ?_)
    · exact j_sub (lsub_s (lsub_s (lsub_s (lsub_s (lsub_s (lsub_s (lsub_s (lsub_s (lsub_n (lsub_n lsub_0)))))))))) (w_X7_rows_156 h hk14 hk22 hf)
    · refine j_iload (q := 126) h dX7_rows_124 rfl rfl ?_
      refine j_if_lt (q := 129) 138 h dX7_rows_126 (by decide) rfl hf (fun hf => ?_) (fun hf => ?_)
      · exact j_sub (lsub_s (lsub_s (lsub_s (lsub_s (lsub_s (lsub_s (lsub_s (lsub_s (lsub_n (lsub_n lsub_0)))))))))) (w_X7_rows_138 h hk14 hk22 hf)
      · refine j_aload_n (q := 130) h dX7_rows_129 rfl rfl ?_
        refine j_iload (q := 132) h dX7_rows_130 rfl rfl ?_
        refine j_cVi (q := 135) (As := [.int _]) h rfl hf (fun _ hx => ct_X7_isAsAtFirst _ _ _ hx) ml_X7_152 vw_X7_isAsAtFirst rf_X7_rows_X7_isAsAtFirst ⟨Nat.zero_le _, Nat.zero_le _⟩ (Nat.le_of_ble_eq_true rfl) dX7_rows_132 rfl (fun _ _ hf => ?_)
        refine j_if_ne (q := 138) 156 h dX7_rows_135 (by decide) rfl hf (fun hf => ?_) (fun hf => ?_)
        · exact j_sub (lsub_s (lsub_s (lsub_s (lsub_s (lsub_s (lsub_s (lsub_s (lsub_s (lsub_n (lsub_n lsub_0)))))))))) (w_X7_rows_156 h hk14 hk22 hf)
        · exact j_sub (lsub_s (lsub_s (lsub_s (lsub_s (lsub_s (lsub_s (lsub_s (lsub_s (lsub_n (lsub_n lsub_0)))))))))) (w_X7_rows_138 h hk14 hk22 hf)
set_option maxRecDepth 20000 in
theorem w_X7_rows_103 {g : GT} {K : KT} {P : PT} {res : Int32 × VT} (h : OK g RX7 cX7_rows 10 (some .int)) {k14 : Nat → Int32 → Int32 → Int32 → VT → Option (Int32 × VT)} {k22 : Nat → Int32 → Int32 → Int32 → Int32 → VT → Option (Int32 × VT)} (hk14 : ∀ (l0 : Nat) (l1 : Int32) (l2 : Int32) (l3 : Int32) (V : VT), k14 l0 l1 l2 l3 V = some res → J g rm_X7_rows (QF g (some (.int res.1)) K P res.2 0 0) 10 K P V 0 0 14 [some (.ref l0), some (.int l1), some (.int l2), some (.int l3), none, none, none, none, none, none] []) (hk22 : ∀ (l0 : Nat) (l1 : Int32) (l2 : Int32) (l3 : Int32) (l4 : Int32) (V : VT), k22 l0 l1 l2 l3 l4 V = some res → J g rm_X7_rows (QF g (some (.int res.1)) K P res.2 0 0) 10 K P V 0 0 22 [some (.ref l0), some (.int l1), some (.int l2), some (.int l3), some (.int l4), none, none, none, none, none] []) {l0 : Nat} {l1 : Int32} {l2 : Int32} {l3 : Int32} {l4 : Int32} {l5 : Int32} {l6 : Int32} {l7 : Int32} {V : VT} (hf : f_X7_rows_103 K P k14 k22 l0 l1 l2 l3 l4 l5 l6 l7 V = some res) : J g rm_X7_rows (QF g (some (.int res.1)) K P res.2 0 0) 10 K P V 0 0 103 [some (.ref l0), some (.int l1), some (.int l2), some (.int l3), some (.int l4), some (.int l5), some (.int l6), some (.int l7), none, none] [] := by
  rw [f_X7_rows_103] at hf
  refine j_iconst (q := 104) (1) h dX7_rows_103 ki_1 rfl ?_
  refine j_goto 108 h dX7_rows_104 (by decide) ?_
  exact j_sub (lsub_s (lsub_s (lsub_s (lsub_s (lsub_s (lsub_s (lsub_s (lsub_s (lsub_n (lsub_n lsub_0)))))))))) (w_X7_rows_108 h hk14 hk22 hf)
set_option maxRecDepth 20000 in
theorem w_X7_rows_68 {g : GT} {K : KT} {P : PT} {res : Int32 × VT} (h : OK g RX7 cX7_rows 10 (some .int)) {k14 : Nat → Int32 → Int32 → Int32 → VT → Option (Int32 × VT)} {k22 : Nat → Int32 → Int32 → Int32 → Int32 → VT → Option (Int32 × VT)} (hk14 : ∀ (l0 : Nat) (l1 : Int32) (l2 : Int32) (l3 : Int32) (V : VT), k14 l0 l1 l2 l3 V = some res → J g rm_X7_rows (QF g (some (.int res.1)) K P res.2 0 0) 10 K P V 0 0 14 [some (.ref l0), some (.int l1), some (.int l2), some (.int l3), none, none, none, none, none, none] []) (hk22 : ∀ (l0 : Nat) (l1 : Int32) (l2 : Int32) (l3 : Int32) (l4 : Int32) (V : VT), k22 l0 l1 l2 l3 l4 V = some res → J g rm_X7_rows (QF g (some (.int res.1)) K P res.2 0 0) 10 K P V 0 0 22 [some (.ref l0), some (.int l1), some (.int l2), some (.int l3), some (.int l4), none, none, none, none, none] []) {l0 : Nat} {l1 : Int32} {l2 : Int32} {l3 : Int32} {l4 : Int32} {l5 : Int32} {l6 : Int32} {s0 : Int32} {V : VT} (hf : f_X7_rows_68 K P k14 k22 l0 l1 l2 l3 l4 l5 l6 s0 V = some res) : J g rm_X7_rows (QF g (some (.int res.1)) K P res.2 0 0) 10 K P V 0 0 68 [some (.ref l0), some (.int l1), some (.int l2), some (.int l3), some (.int l4), some (.int l5), some (.int l6), none, none, none] [.int s0] := by
  rw [f_X7_rows_68] at hf
  refine j_istore (q := 70) [_, _, _, _, _, _, _, _, _, _] h dX7_rows_68 rfl (by decide) rfl rfl ?_
  refine j_iload_n (q := 71) h dX7_rows_70 rfl rfl ?_
  refine j_iconst (q := 72) (1) h dX7_rows_71 ki_1 rfl ?_
  refine j_icmp_ne (q := 75) 91 h dX7_rows_72 (by decide) rfl hf (fun hf => ?_) (fun hf => ?_)
  · refine j_iload_n (q := 92) h dX7_rows_91 rfl rfl ?_
    refine j_iconst (q := 93) (3) h dX7_rows_92 ki_3 rfl ?_
    refine j_icmp_eq (q := 96) 103 h dX7_rows_93 (by decide) rfl hf (fun hf => ?_) (fun hf => ?_)
    · exact j_sub (lsub_s (lsub_s (lsub_s (lsub_s (lsub_s (lsub_s (lsub_s (lsub_s (lsub_n (lsub_n lsub_0)))))))))) (w_X7_rows_103 h hk14 hk22 hf)
    · refine j_iload (q := 98) h dX7_rows_96 rfl rfl ?_
      refine j_iconst (q := 99) (5) h dX7_rows_98 ki_5 rfl ?_
      refine j_irem (q := 100) h dX7_rows_99 rfl hf (fun hf => ?_)
      refine j_if_ne (q := 103) 107 h dX7_rows_100 (by decide) rfl hf (fun hf => ?_) (fun hf => ?_)
      · refine j_iconst (q := 108) (0) h dX7_rows_107 ki_0 rfl ?_
        exact j_sub (lsub_s (lsub_s (lsub_s (lsub_s (lsub_s (lsub_s (lsub_s (lsub_s (lsub_n (lsub_n lsub_0)))))))))) (w_X7_rows_108 h hk14 hk22 hf)
      · exact j_sub (lsub_s (lsub_s (lsub_s (lsub_s (lsub_s (lsub_s (lsub_s (lsub_s (lsub_n (lsub_n lsub_0)))))))))) (w_X7_rows_103 h hk14 hk22 hf)
  · refine j_iload (q := 77) h dX7_rows_75 rfl rfl ?_
    refine j_bipush (q := 79) (25) h dX7_rows_77 kb_25 rfl ?_
    refine j_irem (q := 80) h dX7_rows_79 rfl hf (fun hf => ?_)
    refine j_if_ne (q := 83) 87 h dX7_rows_80 (by decide) rfl hf (fun hf => ?_) (fun hf => ?_)
    · refine j_iconst (q := 88) (0) h dX7_rows_87 ki_0 rfl ?_
      refine j_goto 108 h dX7_rows_88 (by decide) ?_
      exact j_sub (lsub_s (lsub_s (lsub_s (lsub_s (lsub_s (lsub_s (lsub_s (lsub_s (lsub_n (lsub_n lsub_0)))))))))) (w_X7_rows_108 h hk14 hk22 hf)
    · refine j_iconst (q := 84) (1) h dX7_rows_83 ki_1 rfl ?_
      refine j_goto 108 h dX7_rows_84 (by decide) ?_
      exact j_sub (lsub_s (lsub_s (lsub_s (lsub_s (lsub_s (lsub_s (lsub_s (lsub_s (lsub_n (lsub_n lsub_0)))))))))) (w_X7_rows_108 h hk14 hk22 hf)
set_option maxRecDepth 20000 in
theorem w_X7_rows_52 {g : GT} {K : KT} {P : PT} {res : Int32 × VT} (h : OK g RX7 cX7_rows 10 (some .int)) {k14 : Nat → Int32 → Int32 → Int32 → VT → Option (Int32 × VT)} {k22 : Nat → Int32 → Int32 → Int32 → Int32 → VT → Option (Int32 × VT)} (hk14 : ∀ (l0 : Nat) (l1 : Int32) (l2 : Int32) (l3 : Int32) (V : VT), k14 l0 l1 l2 l3 V = some res → J g rm_X7_rows (QF g (some (.int res.1)) K P res.2 0 0) 10 K P V 0 0 14 [some (.ref l0), some (.int l1), some (.int l2), some (.int l3), none, none, none, none, none, none] []) (hk22 : ∀ (l0 : Nat) (l1 : Int32) (l2 : Int32) (l3 : Int32) (l4 : Int32) (V : VT), k22 l0 l1 l2 l3 l4 V = some res → J g rm_X7_rows (QF g (some (.int res.1)) K P res.2 0 0) 10 K P V 0 0 22 [some (.ref l0), some (.int l1), some (.int l2), some (.int l3), some (.int l4), none, none, none, none, none] []) {l0 : Nat} {l1 : Int32} {l2 : Int32} {l3 : Int32} {l4 : Int32} {l5 : Int32} {s0 : Int32} {V : VT} (hf : f_X7_rows_52 K P k14 k22 l0 l1 l2 l3 l4 l5 s0 V = some res) : J g rm_X7_rows (QF g (some (.int res.1)) K P res.2 0 0) 10 K P V 0 0 52 [some (.ref l0), some (.int l1), some (.int l2), some (.int l3), some (.int l4), some (.int l5), none, none, none, none] [.int s0] := by
  rw [f_X7_rows_52] at hf
  refine j_istore (q := 54) [_, _, _, _, _, _, _, _, _, _] h dX7_rows_52 rfl (by decide) rfl rfl ?_
  refine j_iload_n (q := 55) h dX7_rows_54 rfl rfl ?_
  refine j_iconst (q := 56) (2) h dX7_rows_55 ki_2 rfl ?_
  refine j_icmp_le (q := 59) 66 h dX7_rows_56 (by decide) rfl hf (fun hf => ?_) (fun hf => ?_)
  · refine j_bipush (q := 68) (-6) h dX7_rows_66 kb_m6 rfl ?_
    exact j_sub (lsub_s (lsub_s (lsub_s (lsub_s (lsub_s (lsub_s (lsub_s (lsub_n (lsub_n (lsub_n lsub_0)))))))))) (w_X7_rows_68 h hk14 hk22 hf)
  · refine j_iload (q := 61) h dX7_rows_59 rfl rfl ?_
    refine j_iconst (q := 62) (5) h dX7_rows_61 ki_5 rfl ?_
    refine j_irem (q := 63) h dX7_rows_62 rfl hf (fun hf => ?_)
    refine j_goto 68 h dX7_rows_63 (by decide) ?_
    exact j_sub (lsub_s (lsub_s (lsub_s (lsub_s (lsub_s (lsub_s (lsub_s (lsub_n (lsub_n (lsub_n lsub_0)))))))))) (w_X7_rows_68 h hk14 hk22 hf)
set_option maxRecDepth 20000 in
theorem w_X7_rows_22 {g : GT} {K : KT} {P : PT} {res : Int32 × VT} (h : OK g RX7 cX7_rows 10 (some .int)) {k14 : Nat → Int32 → Int32 → Int32 → VT → Option (Int32 × VT)} (hk14 : ∀ (l0 : Nat) (l1 : Int32) (l2 : Int32) (l3 : Int32) (V : VT), k14 l0 l1 l2 l3 V = some res → J g rm_X7_rows (QF g (some (.int res.1)) K P res.2 0 0) 10 K P V 0 0 14 [some (.ref l0), some (.int l1), some (.int l2), some (.int l3), none, none, none, none, none, none] []) : ∀ (n : Nat) (l0 : Nat) (l1 : Int32) (l2 : Int32) (l3 : Int32) (l4 : Int32) (V : VT), f_X7_rows_22 K P k14 n l0 l1 l2 l3 l4 V = some res → J g rm_X7_rows (QF g (some (.int res.1)) K P res.2 0 0) 10 K P V 0 0 22 [some (.ref l0), some (.int l1), some (.int l2), some (.int l3), some (.int l4), none, none, none, none, none] [] := by
  intro n
  induction n with
  | zero => intro l0 l1 l2 l3 l4 V hf; rw [f_X7_rows_22] at hf; cases hf
  | succ n ih =>
    intro l0 l1 l2 l3 l4 V hf
    rw [f_X7_rows_22] at hf
    refine j_iload (q := 24) h dX7_rows_22 rfl rfl ?_
    refine j_bipush (q := 26) (125) h dX7_rows_24 kb_125 rfl ?_
    refine j_icmp_ge (q := 29) 242 h dX7_rows_26 (by decide) rfl hf (fun hf => ?_) (fun hf => ?_)
    · refine j_iinc (q := 245) _ [_, _, _, _, _, _, _, _, _, _] h dX7_rows_242 rfl (by decide) rfl (kc_1 _) rfl rfl ?_
      refine j_goto 14 h dX7_rows_245 (by decide) ?_
      exact j_sub (lsub_s (lsub_s (lsub_s (lsub_s (lsub_n (lsub_n (lsub_n (lsub_n (lsub_n (lsub_n lsub_0)))))))))) (hk14 _ _ _ _ _ hf)
    · refine j_iload (q := 31) h dX7_rows_29 rfl rfl ?_
      refine j_bipush (q := 33) (25) h dX7_rows_31 kb_25 rfl ?_
      refine j_idiv (q := 34) h dX7_rows_33 rfl hf (fun hf => ?_)
      refine j_istore (q := 36) [_, _, _, _, _, _, _, _, _, _] h dX7_rows_34 rfl (by decide) rfl rfl ?_
      refine j_iload_n (q := 37) h dX7_rows_36 rfl rfl ?_
      refine j_iconst (q := 38) (1) h dX7_rows_37 ki_1 rfl ?_
      refine j_icmp_le (q := 41) 50 h dX7_rows_38 (by decide) rfl hf (fun hf => ?_) (fun hf => ?_)
      · refine j_bipush (q := 52) (-6) h dX7_rows_50 kb_m6 rfl ?_
        exact j_sub (lsub_s (lsub_s (lsub_s (lsub_s (lsub_s (lsub_s (lsub_n (lsub_n (lsub_n (lsub_n lsub_0)))))))))) (w_X7_rows_52 h hk14 ih hf)
      · refine j_iload (q := 43) h dX7_rows_41 rfl rfl ?_
        refine j_iconst (q := 44) (5) h dX7_rows_43 ki_5 rfl ?_
        refine j_idiv (q := 45) h dX7_rows_44 rfl hf (fun hf => ?_)
        refine j_iconst (q := 46) (5) h dX7_rows_45 ki_5 rfl ?_
        refine j_irem (q := 47) h dX7_rows_46 rfl hf (fun hf => ?_)
        refine j_goto 52 h dX7_rows_47 (by decide) ?_
        exact j_sub (lsub_s (lsub_s (lsub_s (lsub_s (lsub_s (lsub_s (lsub_n (lsub_n (lsub_n (lsub_n lsub_0)))))))))) (w_X7_rows_52 h hk14 ih hf)
set_option maxRecDepth 20000 in
theorem w_X7_rows_14 {g : GT} {K : KT} {P : PT} {res : Int32 × VT} (h : OK g RX7 cX7_rows 10 (some .int)) : ∀ (n : Nat) (l0 : Nat) (l1 : Int32) (l2 : Int32) (l3 : Int32) (V : VT), f_X7_rows_14 K P n l0 l1 l2 l3 V = some res → J g rm_X7_rows (QF g (some (.int res.1)) K P res.2 0 0) 10 K P V 0 0 14 [some (.ref l0), some (.int l1), some (.int l2), some (.int l3), none, none, none, none, none, none] [] := by
  intro n
  induction n with
  | zero => intro l0 l1 l2 l3 V hf; rw [f_X7_rows_14] at hf; cases hf
  | succ n ih =>
    intro l0 l1 l2 l3 V hf
    rw [f_X7_rows_14] at hf
    refine j_iload_n (q := 15) h dX7_rows_14 rfl rfl ?_
    refine j_iconst (q := 16) (4) h dX7_rows_15 ki_4 rfl ?_
    refine j_icmp_ge (q := 19) 248 h dX7_rows_16 (by decide) rfl hf (fun hf => ?_) (fun hf => ?_)
    · refine j_iload_n (q := 249) h dX7_rows_248 rfl rfl ?_
      refine j_iconst (q := 250) (-1) h dX7_rows_249 ki_m1 rfl ?_
      refine j_icmp_ne (q := 253) 257 h dX7_rows_250 (by decide) rfl hf (fun hf => ?_) (fun hf => ?_)
      · refine j_bipush (q := 259) (-6) h dX7_rows_257 kb_m6 rfl ?_
        exact j_iret h dX7_rows_259 hf
      · refine j_iload_n (q := 254) h dX7_rows_253 rfl rfl ?_
        refine j_goto 259 h dX7_rows_254 (by decide) ?_
        exact j_iret h dX7_rows_259 hf
    · refine j_iconst (q := 20) (0) h dX7_rows_19 ki_0 rfl ?_
      refine j_istore (q := 22) [_, _, _, _, _, _, _, _, _, _] h dX7_rows_20 rfl (by decide) rfl rfl ?_
      exact j_sub (lsub_s (lsub_s (lsub_s (lsub_s (lsub_s (lsub_n (lsub_n (lsub_n (lsub_n (lsub_n lsub_0)))))))))) (w_X7_rows_22 h ih FU _ _ _ _ _ _ hf)
set_option maxRecDepth 20000 in
theorem w_X7_rows_0 {g : GT} {K : KT} {P : PT} {res : Int32 × VT} (h : OK g RX7 cX7_rows 10 (some .int)) {l0 : Nat} {l1 : Int32} {V : VT} (hf : f_X7_rows K P l0 l1 V = some res) : J g rm_X7_rows (QF g (some (.int res.1)) K P res.2 0 0) 10 K P V 0 0 0 [some (.ref l0), some (.int l1), none, none, none, none, none, none, none, none] [] := by
  rw [f_X7_rows] at hf
  refine j_aload_n (q := 1) h dX7_rows_0 rfl rfl ?_
  refine j_gI (q := 4) h uin_X7 rfl rfl (by decide) rfl fl_X7_67 dX7_rows_1 rfl hf (fun hf => ?_)
  refine j_if_ne (q := 7) 10 h dX7_rows_4 (by decide) rfl hf (fun hf => ?_) (fun hf => ?_)
  · refine j_iconst (q := 11) (0) h dX7_rows_10 ki_0 rfl ?_
    refine j_istore_n (q := 12) [_, _, _, _, _, _, _, _, _, _] h dX7_rows_11 rfl (by decide) rfl rfl ?_
    refine j_iconst (q := 13) (1) h dX7_rows_12 ki_1 rfl ?_
    refine j_istore_n (q := 14) [_, _, _, _, _, _, _, _, _, _] h dX7_rows_13 rfl (by decide) rfl rfl ?_
    exact j_sub (lsub_s (lsub_s (lsub_s (lsub_s (lsub_n (lsub_n (lsub_n (lsub_n (lsub_n (lsub_n lsub_0)))))))))) (w_X7_rows_14 h FU _ _ _ _ _ hf)
  · refine j_bipush (q := 9) (-3) h dX7_rows_7 kb_m3 rfl ?_
    exact j_iret h dX7_rows_9 hf
theorem ct_X7_rows (l : Launch) (D : va_G) (T : TT) {K : KT} {P : PT} {l0 : Nat} {l1 : Int32} {V : VT} {res : Int32 × VT} (hf : f_X7_rows K P l0 l1 V = some res) : CT l D T yX7_rows cX7_rows 10 (some .int) rm_X7_rows K P V [.ref l0, .int l1] (some (.int res.1)) res.2 :=
  fun _ => CT_of pn_X7 (cat_a (cat_i cat_0)) (Nat.le_of_ble_eq_true rfl) [some (.ref l0), some (.int l1), none, none, none, none, none, none, none, none] rfl (fun _ _ _ h => w_X7_rows_0 h hf)
/-! QuotedLayersModel.nextOrder()Z -/
def rm_X7_nextOrder : Room := { frames := 0, cells := 0, slots := 0, locals := 0 }
def f_X7_nextOrder_107 (K : KT) (P : PT) : Nat → Nat → Int32 → Int32 → VT → Option (Int32 × VT)
  | 0, _, _, _, _ => none
  | n + 1, l0, l4, l5, V => if l4 < l5 then (gR K P l0 5 17 fun b1 => aI K V 0 b1 l4 fun x2 => gR K P l0 5 17 fun b3 => gR K P l0 5 17 fun b4 => aI K V 0 b4 l5 fun x5 => sA K V b3 l4 x5 fun V6 => gR K P l0 5 17 fun b7 => sA K V6 b7 l5 x2 fun V8 => (f_X7_nextOrder_107 K P n) l0 (l4 + (1 : Int32)) (l5 + (-1 : Int32)) V8) else (rB ((1 : Int32)) V)
def f_X7_nextOrder_47 (K : KT) (P : PT) : Nat → Nat → Int32 → Int32 → VT → Option (Int32 × VT)
  | 0, _, _, _, _ => none
  | n + 1, l0, l1, l2, V => gR K P l0 5 17 fun b1 => aI K V 0 b1 l2 fun x2 => gR K P l0 5 17 fun b3 => aI K V 0 b3 l1 fun x4 => if x2 < x4 then ((f_X7_nextOrder_47 K P n) l0 l1 (l2 + (-1 : Int32)) V) else (gR K P l0 5 17 fun b5 => aI K V 0 b5 l1 fun x6 => gR K P l0 5 17 fun b7 => gR K P l0 5 17 fun b8 => aI K V 0 b8 l2 fun x9 => sA K V b7 l1 x9 fun V10 => gR K P l0 5 17 fun b11 => sA K V10 b11 l2 x6 fun V12 => gI K V12 l0 5 7 fun x13 => f_X7_nextOrder_107 K P FU l0 (l1 + ((1 : Int32))) (x13 - ((1 : Int32))) V12)
def f_X7_nextOrder_34 (K : KT) (P : PT) (l0 : Nat) (l1 : Int32) (V : VT) : Option (Int32 × VT) :=
  if l1 < 0 then (rB ((0 : Int32)) V) else (gI K V l0 5 7 fun x1 => f_X7_nextOrder_47 K P FU l0 l1 (x1 - ((1 : Int32))) V)
def f_X7_nextOrder_7 (K : KT) (P : PT) : Nat → Nat → Int32 → VT → Option (Int32 × VT)
  | 0, _, _, _ => none
  | n + 1, l0, l1, V => if l1 < 0 then (f_X7_nextOrder_34 K P l0 l1 V) else (gR K P l0 5 17 fun b1 => aI K V 0 b1 l1 fun x2 => gR K P l0 5 17 fun b3 => aI K V 0 b3 (l1 + ((1 : Int32))) fun x4 => if x4 < x2 then ((f_X7_nextOrder_7 K P n) l0 (l1 + (-1 : Int32)) V) else (f_X7_nextOrder_34 K P l0 l1 V))
def f_X7_nextOrder (K : KT) (P : PT) (l0 : Nat) (V : VT) : Option (Int32 × VT) :=
  gI K V l0 5 7 fun x1 => f_X7_nextOrder_7 K P FU l0 (x1 - ((2 : Int32))) V
set_option maxRecDepth 20000 in
theorem w_X7_nextOrder_107 {g : GT} {K : KT} {P : PT} {res : Int32 × VT} (h : OK g RX7 cX7_nextOrder 6 (some .boolean)) : ∀ (n : Nat) (l0 : Nat) (l4 : Int32) (l5 : Int32) (V : VT), f_X7_nextOrder_107 K P n l0 l4 l5 V = some res → J g rm_X7_nextOrder (QF g (some (.int res.1)) K P res.2 0 0) 6 K P V 0 0 107 [some (.ref l0), none, none, none, some (.int l4), some (.int l5)] [] := by
  intro n
  induction n with
  | zero => intro l0 l4 l5 V hf; rw [f_X7_nextOrder_107] at hf; cases hf
  | succ n ih =>
    intro l0 l4 l5 V hf
    rw [f_X7_nextOrder_107] at hf
    refine j_iload (q := 109) h dX7_nextOrder_107 rfl rfl ?_
    refine j_iload (q := 111) h dX7_nextOrder_109 rfl rfl ?_
    refine j_icmp_ge (q := 114) 153 h dX7_nextOrder_111 (by decide) rfl hf (fun hf => ?_) (fun hf => ?_)
    · refine j_iconst (q := 154) (1) h dX7_nextOrder_153 ki_1 rfl ?_
      exact j_zret h dX7_nextOrder_154 hf
    · refine j_aload_n (q := 115) h dX7_nextOrder_114 rfl rfl ?_
      refine j_gR (q := 118) h uin_X7 rfl rfl (by decide) rfl fl_X7_47 dX7_nextOrder_115 rfl hf (fun b1 hf => ?_)
      refine j_iload (q := 120) h dX7_nextOrder_118 rfl rfl ?_
      refine j_iald (q := 121) h dX7_nextOrder_120 rfl hf (fun hf => ?_)
      refine j_istore_n (q := 122) [_, _, _, _, _, _] h dX7_nextOrder_121 rfl (by decide) rfl rfl ?_
      refine j_aload_n (q := 123) h dX7_nextOrder_122 rfl rfl ?_
      refine j_gR (q := 126) h uin_X7 rfl rfl (by decide) rfl fl_X7_47 dX7_nextOrder_123 rfl hf (fun b3 hf => ?_)
      refine j_iload (q := 128) h dX7_nextOrder_126 rfl rfl ?_
      refine j_aload_n (q := 129) h dX7_nextOrder_128 rfl rfl ?_
      refine j_gR (q := 132) h uin_X7 rfl rfl (by decide) rfl fl_X7_47 dX7_nextOrder_129 rfl hf (fun b4 hf => ?_)
      refine j_iload (q := 134) h dX7_nextOrder_132 rfl rfl ?_
      refine j_iald (q := 135) h dX7_nextOrder_134 rfl hf (fun hf => ?_)
      refine j_iast (q := 136) h dX7_nextOrder_135 rfl hf (fun hf => ?_)
      refine j_aload_n (q := 137) h dX7_nextOrder_136 rfl rfl ?_
      refine j_gR (q := 140) h uin_X7 rfl rfl (by decide) rfl fl_X7_47 dX7_nextOrder_137 rfl hf (fun b7 hf => ?_)
      refine j_iload (q := 142) h dX7_nextOrder_140 rfl rfl ?_
      refine j_iload_n (q := 143) h dX7_nextOrder_142 rfl rfl ?_
      refine j_iast (q := 144) h dX7_nextOrder_143 rfl hf (fun hf => ?_)
      refine j_iinc (q := 147) _ [_, _, _, _, _, _] h dX7_nextOrder_144 rfl (by decide) rfl (kc_m1 _) rfl rfl ?_
      refine j_iinc (q := 150) _ [_, _, _, _, _, _] h dX7_nextOrder_147 rfl (by decide) rfl (kc_1 _) rfl rfl ?_
      refine j_goto 107 h dX7_nextOrder_150 (by decide) ?_
      exact j_sub (lsub_s (lsub_n (lsub_n (lsub_n (lsub_s (lsub_s lsub_0)))))) (ih _ _ _ _ hf)
set_option maxRecDepth 20000 in
theorem w_X7_nextOrder_47 {g : GT} {K : KT} {P : PT} {res : Int32 × VT} (h : OK g RX7 cX7_nextOrder 6 (some .boolean)) : ∀ (n : Nat) (l0 : Nat) (l1 : Int32) (l2 : Int32) (V : VT), f_X7_nextOrder_47 K P n l0 l1 l2 V = some res → J g rm_X7_nextOrder (QF g (some (.int res.1)) K P res.2 0 0) 6 K P V 0 0 47 [some (.ref l0), some (.int l1), some (.int l2), none, none, none] [] := by
  intro n
  induction n with
  | zero => intro l0 l1 l2 V hf; rw [f_X7_nextOrder_47] at hf; cases hf
  | succ n ih =>
    intro l0 l1 l2 V hf
    rw [f_X7_nextOrder_47] at hf
    refine j_aload_n (q := 48) h dX7_nextOrder_47 rfl rfl ?_
    refine j_gR (q := 51) h uin_X7 rfl rfl (by decide) rfl fl_X7_47 dX7_nextOrder_48 rfl hf (fun b1 hf => ?_)
    refine j_iload_n (q := 52) h dX7_nextOrder_51 rfl rfl ?_
    refine j_iald (q := 53) h dX7_nextOrder_52 rfl hf (fun hf => ?_)
    refine j_aload_n (q := 54) h dX7_nextOrder_53 rfl rfl ?_
    refine j_gR (q := 57) h uin_X7 rfl rfl (by decide) rfl fl_X7_47 dX7_nextOrder_54 rfl hf (fun b3 hf => ?_)
    refine j_iload_n (q := 58) h dX7_nextOrder_57 rfl rfl ?_
    refine j_iald (q := 59) h dX7_nextOrder_58 rfl hf (fun hf => ?_)
    refine j_icmp_ge (q := 62) 68 h dX7_nextOrder_59 (by decide) rfl hf (fun hf => ?_) (fun hf => ?_)
    · refine j_aload_n (q := 69) h dX7_nextOrder_68 rfl rfl ?_
      refine j_gR (q := 72) h uin_X7 rfl rfl (by decide) rfl fl_X7_47 dX7_nextOrder_69 rfl hf (fun b5 hf => ?_)
      refine j_iload_n (q := 73) h dX7_nextOrder_72 rfl rfl ?_
      refine j_iald (q := 74) h dX7_nextOrder_73 rfl hf (fun hf => ?_)
      refine j_istore_n (q := 75) [_, _, _, _, _, _] h dX7_nextOrder_74 rfl (by decide) rfl rfl ?_
      refine j_aload_n (q := 76) h dX7_nextOrder_75 rfl rfl ?_
      refine j_gR (q := 79) h uin_X7 rfl rfl (by decide) rfl fl_X7_47 dX7_nextOrder_76 rfl hf (fun b7 hf => ?_)
      refine j_iload_n (q := 80) h dX7_nextOrder_79 rfl rfl ?_
      refine j_aload_n (q := 81) h dX7_nextOrder_80 rfl rfl ?_
      refine j_gR (q := 84) h uin_X7 rfl rfl (by decide) rfl fl_X7_47 dX7_nextOrder_81 rfl hf (fun b8 hf => ?_)
      refine j_iload_n (q := 85) h dX7_nextOrder_84 rfl rfl ?_
      refine j_iald (q := 86) h dX7_nextOrder_85 rfl hf (fun hf => ?_)
      refine j_iast (q := 87) h dX7_nextOrder_86 rfl hf (fun hf => ?_)
      refine j_aload_n (q := 88) h dX7_nextOrder_87 rfl rfl ?_
      refine j_gR (q := 91) h uin_X7 rfl rfl (by decide) rfl fl_X7_47 dX7_nextOrder_88 rfl hf (fun b11 hf => ?_)
      refine j_iload_n (q := 92) h dX7_nextOrder_91 rfl rfl ?_
      refine j_iload_n (q := 93) h dX7_nextOrder_92 rfl rfl ?_
      refine j_iast (q := 94) h dX7_nextOrder_93 rfl hf (fun hf => ?_)
      refine j_iload_n (q := 95) h dX7_nextOrder_94 rfl rfl ?_
      refine j_iconst (q := 96) (1) h dX7_nextOrder_95 ki_1 rfl ?_
      refine j_iadd (q := 97) h dX7_nextOrder_96 rfl ?_
      refine j_istore (q := 99) [_, _, _, _, _, _] h dX7_nextOrder_97 rfl (by decide) rfl rfl ?_
      refine j_aload_n (q := 100) h dX7_nextOrder_99 rfl rfl ?_
      refine j_gI (q := 103) h uin_X7 rfl rfl (by decide) rfl fl_X7_84 dX7_nextOrder_100 rfl hf (fun hf => ?_)
      refine j_iconst (q := 104) (1) h dX7_nextOrder_103 ki_1 rfl ?_
      refine j_isub (q := 105) h dX7_nextOrder_104 rfl ?_
      refine j_istore (q := 107) [_, _, _, _, _, _] h dX7_nextOrder_105 rfl (by decide) rfl rfl ?_
      exact j_sub (lsub_s (lsub_n (lsub_n (lsub_n (lsub_s (lsub_s lsub_0)))))) (w_X7_nextOrder_107 h FU _ _ _ _ hf)
    · refine j_iinc (q := 65) _ [_, _, _, _, _, _] h dX7_nextOrder_62 rfl (by decide) rfl (kc_m1 _) rfl rfl ?_
      refine j_goto 47 h dX7_nextOrder_65 (by decide) ?_
      exact j_sub (lsub_s (lsub_s (lsub_s (lsub_n (lsub_n (lsub_n lsub_0)))))) (ih _ _ _ _ hf)
set_option maxRecDepth 20000 in
theorem w_X7_nextOrder_34 {g : GT} {K : KT} {P : PT} {res : Int32 × VT} (h : OK g RX7 cX7_nextOrder 6 (some .boolean)) {l0 : Nat} {l1 : Int32} {V : VT} (hf : f_X7_nextOrder_34 K P l0 l1 V = some res) : J g rm_X7_nextOrder (QF g (some (.int res.1)) K P res.2 0 0) 6 K P V 0 0 34 [some (.ref l0), some (.int l1), none, none, none, none] [] := by
  rw [f_X7_nextOrder_34] at hf
  refine j_iload_n (q := 35) h dX7_nextOrder_34 rfl rfl ?_
  refine j_if_ge (q := 38) 40 h dX7_nextOrder_35 (by decide) rfl hf (fun hf => ?_) (fun hf => ?_)
  · refine j_aload_n (q := 41) h dX7_nextOrder_40 rfl rfl ?_
    refine j_gI (q := 44) h uin_X7 rfl rfl (by decide) rfl fl_X7_84 dX7_nextOrder_41 rfl hf (fun hf => ?_)
    refine j_iconst (q := 45) (1) h dX7_nextOrder_44 ki_1 rfl ?_
    refine j_isub (q := 46) h dX7_nextOrder_45 rfl ?_
    refine j_istore_n (q := 47) [_, _, _, _, _, _] h dX7_nextOrder_46 rfl (by decide) rfl rfl ?_
    exact j_sub (lsub_s (lsub_s (lsub_s (lsub_n (lsub_n (lsub_n lsub_0)))))) (w_X7_nextOrder_47 h FU _ _ _ _ hf)
  · refine j_iconst (q := 39) (0) h dX7_nextOrder_38 ki_0 rfl ?_
    exact j_zret h dX7_nextOrder_39 hf
set_option maxRecDepth 20000 in
theorem w_X7_nextOrder_7 {g : GT} {K : KT} {P : PT} {res : Int32 × VT} (h : OK g RX7 cX7_nextOrder 6 (some .boolean)) : ∀ (n : Nat) (l0 : Nat) (l1 : Int32) (V : VT), f_X7_nextOrder_7 K P n l0 l1 V = some res → J g rm_X7_nextOrder (QF g (some (.int res.1)) K P res.2 0 0) 6 K P V 0 0 7 [some (.ref l0), some (.int l1), none, none, none, none] [] := by
  intro n
  induction n with
  | zero => intro l0 l1 V hf; rw [f_X7_nextOrder_7] at hf; cases hf
  | succ n ih =>
    intro l0 l1 V hf
    rw [f_X7_nextOrder_7] at hf
    refine j_iload_n (q := 8) h dX7_nextOrder_7 rfl rfl ?_
    refine j_if_lt (q := 11) 34 h dX7_nextOrder_8 (by decide) rfl hf (fun hf => ?_) (fun hf => ?_)
    · exact j_sub (lsub_s (lsub_s (lsub_n (lsub_n (lsub_n (lsub_n lsub_0)))))) (w_X7_nextOrder_34 h hf)
    · refine j_aload_n (q := 12) h dX7_nextOrder_11 rfl rfl ?_
      refine j_gR (q := 15) h uin_X7 rfl rfl (by decide) rfl fl_X7_47 dX7_nextOrder_12 rfl hf (fun b1 hf => ?_)
      refine j_iload_n (q := 16) h dX7_nextOrder_15 rfl rfl ?_
      refine j_iald (q := 17) h dX7_nextOrder_16 rfl hf (fun hf => ?_)
      refine j_aload_n (q := 18) h dX7_nextOrder_17 rfl rfl ?_
      refine j_gR (q := 21) h uin_X7 rfl rfl (by decide) rfl fl_X7_47 dX7_nextOrder_18 rfl hf (fun b3 hf => ?_)
      refine j_iload_n (q := 22) h dX7_nextOrder_21 rfl rfl ?_
      refine j_iconst (q := 23) (1) h dX7_nextOrder_22 ki_1 rfl ?_
      refine j_iadd (q := 24) h dX7_nextOrder_23 rfl ?_
      refine j_iald (q := 25) h dX7_nextOrder_24 rfl hf (fun hf => ?_)
      refine j_icmp_le (q := 28) 34 h dX7_nextOrder_25 (by decide) rfl hf (fun hf => ?_) (fun hf => ?_)
      · exact j_sub (lsub_s (lsub_s (lsub_n (lsub_n (lsub_n (lsub_n lsub_0)))))) (w_X7_nextOrder_34 h hf)
      · refine j_iinc (q := 31) _ [_, _, _, _, _, _] h dX7_nextOrder_28 rfl (by decide) rfl (kc_m1 _) rfl rfl ?_
        refine j_goto 7 h dX7_nextOrder_31 (by decide) ?_
        exact j_sub (lsub_s (lsub_s (lsub_n (lsub_n (lsub_n (lsub_n lsub_0)))))) (ih _ _ _ hf)
set_option maxRecDepth 20000 in
theorem w_X7_nextOrder_0 {g : GT} {K : KT} {P : PT} {res : Int32 × VT} (h : OK g RX7 cX7_nextOrder 6 (some .boolean)) {l0 : Nat} {V : VT} (hf : f_X7_nextOrder K P l0 V = some res) : J g rm_X7_nextOrder (QF g (some (.int res.1)) K P res.2 0 0) 6 K P V 0 0 0 [some (.ref l0), none, none, none, none, none] [] := by
  rw [f_X7_nextOrder] at hf
  refine j_aload_n (q := 1) h dX7_nextOrder_0 rfl rfl ?_
  refine j_gI (q := 4) h uin_X7 rfl rfl (by decide) rfl fl_X7_84 dX7_nextOrder_1 rfl hf (fun hf => ?_)
  refine j_iconst (q := 5) (2) h dX7_nextOrder_4 ki_2 rfl ?_
  refine j_isub (q := 6) h dX7_nextOrder_5 rfl ?_
  refine j_istore_n (q := 7) [_, _, _, _, _, _] h dX7_nextOrder_6 rfl (by decide) rfl rfl ?_
  exact j_sub (lsub_s (lsub_s (lsub_n (lsub_n (lsub_n (lsub_n lsub_0)))))) (w_X7_nextOrder_7 h FU _ _ _ hf)
theorem ct_X7_nextOrder (l : Launch) (D : va_G) (T : TT) {K : KT} {P : PT} {l0 : Nat} {V : VT} {res : Int32 × VT} (hf : f_X7_nextOrder K P l0 V = some res) : CT l D T yX7_nextOrder cX7_nextOrder 6 (some .boolean) rm_X7_nextOrder K P V [.ref l0] (some (.int res.1)) res.2 :=
  fun _ => CT_of pn_X7 (cat_a cat_0) (Nat.le_of_ble_eq_true rfl) [some (.ref l0), none, none, none, none, none] rfl (fun _ _ _ h => w_X7_nextOrder_0 h hf)
/-! QuotedLayersModel.order(I)I -/
def rm_X7_order : Room := { frames := 4, cells := 0, slots := 0, locals := 96 }
theorem rf_X7_order_X7_goThrough : RF rm_X7_goThrough rm_X7_order 5 := ⟨⟨by decide, by decide⟩, rfl, rfl⟩
theorem rf_X7_order_X7_in : RF rm_X7_in rm_X7_order 3 := ⟨⟨by decide, by decide⟩, rfl, rfl⟩
theorem rf_X7_order_X7_layText : RF rm_X7_layText rm_X7_order 2 := ⟨⟨by decide, by decide⟩, rfl, rfl⟩
theorem rf_X7_order_X7_nextOrder : RF rm_X7_nextOrder rm_X7_order 6 := ⟨⟨by decide, by decide⟩, rfl, rfl⟩
def f_X7_order_201 (K : KT) (P : PT) (l2 : Int32) (V : VT) : Option (Int32 × VT) :=
  some (l2, V)
def f_X7_order_166 (K : KT) (P : PT) : Nat → Nat → Int32 → Int32 → Int32 → VT → Option (Int32 × VT)
  | 0, _, _, _, _, _ => none
  | n + 1, l0, l1, l2, l4, V => if l4 < ((5 : Int32)) then (gR K P l0 5 8 fun b6 => gR K P l0 5 19 fun b7 => aI K V 0 b7 l4 fun x8 => sA K V b6 l4 x8 fun V9 => (f_X7_order_166 K P n) l0 l1 l2 (l4 + (1 : Int32)) V9) else (if l2 < 0 then (f_X7_order_201 K P l2 V) else (if l1 = ((-1 : Int32)) then (f_X7_order_201 K P l2 V) else (gI K V l0 5 7 fun x1 => cS (f_X7_in K P l1 ((0 : Int32)) (x1 - ((1 : Int32))) V) fun x3 V2 => if x3 = 0 then (some ((-6 : Int32), V2)) else (gR K P l0 5 18 fun b4 => aI K V2 0 b4 l1 fun x5 => some (x5, V2)))))
def f_X7_order_155 (K : KT) (P : PT) (k48 : Nat → Int32 → Int32 → Int32 → VT → Option (Int32 × VT)) (l0 : Nat) (l1 : Int32) (l2 : Int32) (V : VT) : Option (Int32 × VT) :=
  cV K l0 5 (f_X7_nextOrder K P l0 V) fun x2 V1 => k48 l0 l1 l2 x2 V1
def f_X7_order_126 (K : KT) (P : PT) (k48 : Nat → Int32 → Int32 → Int32 → VT → Option (Int32 × VT)) : Nat → Nat → Int32 → Int32 → Int32 → VT → Option (Int32 × VT)
  | 0, _, _, _, _, _ => none
  | n + 1, l0, l1, l2, l4, V => gI K V l0 5 7 fun x1 => if l4 < x1 then (gR K P l0 5 18 fun b2 => gR K P l0 5 17 fun b3 => aI K V 0 b3 l4 fun x4 => sA K V b2 l4 x4 fun V5 => (f_X7_order_126 K P k48 n) l0 l1 l2 (l4 + (1 : Int32)) V5) else (f_X7_order_155 K P k48 l0 l1 l2 V)
def f_X7_order_118 (K : KT) (P : PT) (k48 : Nat → Int32 → Int32 → Int32 → VT → Option (Int32 × VT)) (l0 : Nat) (l1 : Int32) (V : VT) : Option (Int32 × VT) :=
  gI K V l0 5 11 fun x1 => f_X7_order_126 K P k48 FU l0 l1 x1 ((0 : Int32)) V
def f_X7_order_55 (K : KT) (P : PT) (k48 : Nat → Int32 → Int32 → Int32 → VT → Option (Int32 × VT)) : Nat → Nat → Int32 → Int32 → Int32 → VT → Option (Int32 × VT)
  | 0, _, _, _, _, _ => none
  | n + 1, l0, l1, l2, l4, V => gI K V l0 5 7 fun x1 => if l4 < x1 then (gR K P l0 5 8 fun b8 => gR K P l0 5 19 fun b9 => gR K P l0 5 17 fun b10 => aI K V 0 b10 l4 fun x11 => aI K V 0 b9 x11 fun x12 => sA K V b8 l4 x12 fun V13 => (f_X7_order_55 K P k48 n) l0 l1 l2 (l4 + (1 : Int32)) V13) else (cV K l0 5 (f_X7_layText K P l0 V) fun u3 V2 => gI K V2 l0 5 7 fun x4 => cV K l0 5 (f_X7_goThrough K P l0 x4 ((-6 : Int32)) V2) fun x6 V5 => if x6 = 0 then (if l2 < 0 then (f_X7_order_118 K P k48 l0 l1 V5) else (gI K V5 l0 5 11 fun x7 => if x7 < l2 then (f_X7_order_118 K P k48 l0 l1 V5) else (f_X7_order_155 K P k48 l0 l1 l2 V5))) else (f_X7_order_155 K P k48 l0 l1 l2 V5))
def f_X7_order_48 (K : KT) (P : PT) : Nat → Nat → Int32 → Int32 → Int32 → VT → Option (Int32 × VT)
  | 0, _, _, _, _, _ => none
  | n + 1, l0, l1, l2, l3, V => if l3 = 0 then (f_X7_order_166 K P FU l0 l1 l2 ((0 : Int32)) V) else (f_X7_order_55 K P (f_X7_order_48 K P n) FU l0 l1 l2 ((0 : Int32)) V)
def f_X7_order_47 (K : KT) (P : PT) (l0 : Nat) (l1 : Int32) (l2 : Int32) (s0 : Int32) (V : VT) : Option (Int32 × VT) :=
  f_X7_order_48 K P FU l0 l1 l2 s0 V
def f_X7_order_2 (K : KT) (P : PT) : Nat → Nat → Int32 → Int32 → VT → Option (Int32 × VT)
  | 0, _, _, _, _ => none
  | n + 1, l0, l1, l2, V => if l2 < ((5 : Int32)) then (gR K P l0 5 17 fun b2 => sA K V b2 l2 l2 fun V3 => gR K P l0 5 19 fun b4 => gR K P l0 5 8 fun b5 => aI K V3 0 b5 l2 fun x6 => sA K V3 b4 l2 x6 fun V7 => (f_X7_order_2 K P n) l0 l1 (l2 + (1 : Int32)) V7) else (gI K V l0 5 7 fun x1 => if 0 < x1 then (f_X7_order_47 K P l0 l1 ((-6 : Int32)) ((1 : Int32)) V) else (f_X7_order_47 K P l0 l1 ((-6 : Int32)) ((0 : Int32)) V))
def f_X7_order (K : KT) (P : PT) (l0 : Nat) (l1 : Int32) (V : VT) : Option (Int32 × VT) :=
  f_X7_order_2 K P FU l0 l1 ((0 : Int32)) V
set_option maxRecDepth 20000 in
theorem w_X7_order_201 {g : GT} {K : KT} {P : PT} {res : Int32 × VT} (h : OK g RX7 cX7_order 5 (some .int)) {l2 : Int32} {V : VT} (hf : f_X7_order_201 K P l2 V = some res) : J g rm_X7_order (QF g (some (.int res.1)) K P res.2 0 0) 5 K P V 0 0 201 [none, none, some (.int l2), none, none] [] := by
  rw [f_X7_order_201] at hf
  refine j_iload_n (q := 202) h dX7_order_201 rfl rfl ?_
  refine j_goto 230 h dX7_order_202 (by decide) ?_
  exact j_iret h dX7_order_230 hf
set_option maxRecDepth 20000 in
theorem w_X7_order_166 {g : GT} {K : KT} {P : PT} {res : Int32 × VT} (h : OK g RX7 cX7_order 5 (some .int)) : ∀ (n : Nat) (l0 : Nat) (l1 : Int32) (l2 : Int32) (l4 : Int32) (V : VT), f_X7_order_166 K P n l0 l1 l2 l4 V = some res → J g rm_X7_order (QF g (some (.int res.1)) K P res.2 0 0) 5 K P V 0 0 166 [some (.ref l0), some (.int l1), some (.int l2), none, some (.int l4)] [] := by
  intro n
  induction n with
  | zero => intro l0 l1 l2 l4 V hf; rw [f_X7_order_166] at hf; cases hf
  | succ n ih =>
    intro l0 l1 l2 l4 V hf
    rw [f_X7_order_166] at hf
    refine j_iload (q := 168) h dX7_order_166 rfl rfl ?_
    refine j_iconst (q := 169) (5) h dX7_order_168 ki_5 rfl ?_
    refine j_icmp_ge (q := 172) 192 h dX7_order_169 (by decide) rfl hf (fun hf => ?_) (fun hf => ?_)
    · refine j_iload_n (q := 193) h dX7_order_192 rfl rfl ?_
      refine j_if_lt (q := 196) 201 h dX7_order_193 (by decide) rfl hf (fun hf => ?_) (fun hf => ?_)
      · exact j_sub (lsub_n (lsub_n (lsub_s (lsub_n (lsub_n lsub_0))))) (w_X7_order_201 h hf)
      · refine j_iload_n (q := 197) h dX7_order_196 rfl rfl ?_
        refine j_iconst (q := 198) (-1) h dX7_order_197 ki_m1 rfl ?_
        refine j_icmp_ne (q := 201) 205 h dX7_order_198 (by decide) rfl hf (fun hf => ?_) (fun hf => ?_)
        · refine j_iload_n (q := 206) h dX7_order_205 rfl rfl ?_
          refine j_iconst (q := 207) (0) h dX7_order_206 ki_0 rfl ?_
          refine j_aload_n (q := 208) h dX7_order_207 rfl rfl ?_
          refine j_gI (q := 211) h uin_X7 rfl rfl (by decide) rfl fl_X7_84 dX7_order_208 rfl hf (fun hf => ?_)
          refine j_iconst (q := 212) (1) h dX7_order_211 ki_1 rfl ?_
          refine j_isub (q := 213) h dX7_order_212 rfl ?_
          refine j_cSi (q := 216) (As := [.int _, .int _, .int _]) h rfl hf (fun _ hx => ct_X7_in _ _ _ hx) ml_X7_63 sw_X7_in rf_X7_order_X7_in ⟨Nat.zero_le _, Nat.zero_le _⟩ (Nat.le_of_ble_eq_true rfl) dX7_order_213 rfl (fun _ _ hf => ?_)
          refine j_if_eq (q := 219) 228 h dX7_order_216 (by decide) rfl hf (fun hf => ?_) (fun hf => ?_)
          · refine j_bipush (q := 230) (-6) h dX7_order_228 kb_m6 rfl ?_
            exact j_iret h dX7_order_230 hf
          · refine j_aload_n (q := 220) h dX7_order_219 rfl rfl ?_
            refine j_gR (q := 223) h uin_X7 rfl rfl (by decide) rfl fl_X7_50 dX7_order_220 rfl hf (fun b4 hf => ?_)
            refine j_iload_n (q := 224) h dX7_order_223 rfl rfl ?_
            refine j_iald (q := 225) h dX7_order_224 rfl hf (fun hf => ?_)
            refine j_goto 230 h dX7_order_225 (by decide) ?_
            exact j_iret h dX7_order_230 hf
        · exact j_sub (lsub_n (lsub_n (lsub_s (lsub_n (lsub_n lsub_0))))) (w_X7_order_201 h hf)
    · refine j_aload_n (q := 173) h dX7_order_172 rfl rfl ?_
      refine j_gR (q := 176) h uin_X7 rfl rfl (by decide) rfl fl_X7_28 dX7_order_173 rfl hf (fun b6 hf => ?_)
      refine j_iload (q := 178) h dX7_order_176 rfl rfl ?_
      refine j_aload_n (q := 179) h dX7_order_178 rfl rfl ?_
      refine j_gR (q := 182) h uin_X7 rfl rfl (by decide) rfl fl_X7_53 dX7_order_179 rfl hf (fun b7 hf => ?_)
      refine j_iload (q := 184) h dX7_order_182 rfl rfl ?_
      refine j_iald (q := 185) h dX7_order_184 rfl hf (fun hf => ?_)
      refine j_iast (q := 186) h dX7_order_185 rfl hf (fun hf => ?_)
      refine j_iinc (q := 189) _ [_, _, _, _, _] h dX7_order_186 rfl (by decide) rfl (kc_1 _) rfl rfl ?_
      refine j_goto 166 h dX7_order_189 (by decide) ?_
      exact j_sub (lsub_s (lsub_s (lsub_s (lsub_n (lsub_s lsub_0))))) (ih _ _ _ _ _ hf)
set_option maxRecDepth 20000 in
theorem w_X7_order_155 {g : GT} {K : KT} {P : PT} {res : Int32 × VT} (h : OK g RX7 cX7_order 5 (some .int)) {k48 : Nat → Int32 → Int32 → Int32 → VT → Option (Int32 × VT)} (hk48 : ∀ (l0 : Nat) (l1 : Int32) (l2 : Int32) (l3 : Int32) (V : VT), k48 l0 l1 l2 l3 V = some res → J g rm_X7_order (QF g (some (.int res.1)) K P res.2 0 0) 5 K P V 0 0 48 [some (.ref l0), some (.int l1), some (.int l2), some (.int l3), none] []) {l0 : Nat} {l1 : Int32} {l2 : Int32} {V : VT} (hf : f_X7_order_155 K P k48 l0 l1 l2 V = some res) : J g rm_X7_order (QF g (some (.int res.1)) K P res.2 0 0) 5 K P V 0 0 155 [some (.ref l0), some (.int l1), some (.int l2), none, none] [] := by
  rw [f_X7_order_155] at hf
  refine j_aload_n (q := 156) h dX7_order_155 rfl rfl ?_
  refine j_cVi (q := 159) (As := []) h rfl hf (fun _ hx => ct_X7_nextOrder _ _ _ hx) ml_X7_158 vw_X7_nextOrder rf_X7_order_X7_nextOrder ⟨Nat.zero_le _, Nat.zero_le _⟩ (Nat.le_of_ble_eq_true rfl) dX7_order_156 rfl (fun _ _ hf => ?_)
  refine j_istore_n (q := 160) [_, _, _, _, _] h dX7_order_159 rfl (by decide) rfl rfl ?_
  refine j_goto 48 h dX7_order_160 (by decide) ?_
  exact j_sub (lsub_s (lsub_s (lsub_s (lsub_s (lsub_n lsub_0))))) (hk48 _ _ _ _ _ hf)
set_option maxRecDepth 20000 in
theorem w_X7_order_126 {g : GT} {K : KT} {P : PT} {res : Int32 × VT} (h : OK g RX7 cX7_order 5 (some .int)) {k48 : Nat → Int32 → Int32 → Int32 → VT → Option (Int32 × VT)} (hk48 : ∀ (l0 : Nat) (l1 : Int32) (l2 : Int32) (l3 : Int32) (V : VT), k48 l0 l1 l2 l3 V = some res → J g rm_X7_order (QF g (some (.int res.1)) K P res.2 0 0) 5 K P V 0 0 48 [some (.ref l0), some (.int l1), some (.int l2), some (.int l3), none] []) : ∀ (n : Nat) (l0 : Nat) (l1 : Int32) (l2 : Int32) (l4 : Int32) (V : VT), f_X7_order_126 K P k48 n l0 l1 l2 l4 V = some res → J g rm_X7_order (QF g (some (.int res.1)) K P res.2 0 0) 5 K P V 0 0 126 [some (.ref l0), some (.int l1), some (.int l2), none, some (.int l4)] [] := by
  intro n
  induction n with
  | zero => intro l0 l1 l2 l4 V hf; rw [f_X7_order_126] at hf; cases hf
  | succ n ih =>
    intro l0 l1 l2 l4 V hf
    rw [f_X7_order_126] at hf
    refine j_iload (q := 128) h dX7_order_126 rfl rfl ?_
    refine j_aload_n (q := 129) h dX7_order_128 rfl rfl ?_
    refine j_gI (q := 132) h uin_X7 rfl rfl (by decide) rfl fl_X7_84 dX7_order_129 rfl hf (fun hf => ?_)
    refine j_icmp_ge (q := 135) 155 h dX7_order_132 (by decide) rfl hf (fun hf => ?_) (fun hf => ?_)
    · exact j_sub (lsub_s (lsub_s (lsub_s (lsub_n (lsub_n lsub_0))))) (w_X7_order_155 h hk48 hf)
    · refine j_aload_n (q := 136) h dX7_order_135 rfl rfl ?_
      refine j_gR (q := 139) h uin_X7 rfl rfl (by decide) rfl fl_X7_50 dX7_order_136 rfl hf (fun b2 hf => ?_)
      refine j_iload (q := 141) h dX7_order_139 rfl rfl ?_
      refine j_aload_n (q := 142) h dX7_order_141 rfl rfl ?_
      refine j_gR (q := 145) h uin_X7 rfl rfl (by decide) rfl fl_X7_47 dX7_order_142 rfl hf (fun b3 hf => ?_)
      refine j_iload (q := 147) h dX7_order_145 rfl rfl ?_
      refine j_iald (q := 148) h dX7_order_147 rfl hf (fun hf => ?_)
      refine j_iast (q := 149) h dX7_order_148 rfl hf (fun hf => ?_)
      refine j_iinc (q := 152) _ [_, _, _, _, _] h dX7_order_149 rfl (by decide) rfl (kc_1 _) rfl rfl ?_
      refine j_goto 126 h dX7_order_152 (by decide) ?_
      exact j_sub (lsub_s (lsub_s (lsub_s (lsub_n (lsub_s lsub_0))))) (ih _ _ _ _ _ hf)
set_option maxRecDepth 20000 in
theorem w_X7_order_118 {g : GT} {K : KT} {P : PT} {res : Int32 × VT} (h : OK g RX7 cX7_order 5 (some .int)) {k48 : Nat → Int32 → Int32 → Int32 → VT → Option (Int32 × VT)} (hk48 : ∀ (l0 : Nat) (l1 : Int32) (l2 : Int32) (l3 : Int32) (V : VT), k48 l0 l1 l2 l3 V = some res → J g rm_X7_order (QF g (some (.int res.1)) K P res.2 0 0) 5 K P V 0 0 48 [some (.ref l0), some (.int l1), some (.int l2), some (.int l3), none] []) {l0 : Nat} {l1 : Int32} {V : VT} (hf : f_X7_order_118 K P k48 l0 l1 V = some res) : J g rm_X7_order (QF g (some (.int res.1)) K P res.2 0 0) 5 K P V 0 0 118 [some (.ref l0), some (.int l1), none, none, none] [] := by
  rw [f_X7_order_118] at hf
  refine j_aload_n (q := 119) h dX7_order_118 rfl rfl ?_
  refine j_gI (q := 122) h uin_X7 rfl rfl (by decide) rfl fl_X7_94 dX7_order_119 rfl hf (fun hf => ?_)
  refine j_istore_n (q := 123) [_, _, _, _, _] h dX7_order_122 rfl (by decide) rfl rfl ?_
  refine j_iconst (q := 124) (0) h dX7_order_123 ki_0 rfl ?_
  refine j_istore (q := 126) [_, _, _, _, _] h dX7_order_124 rfl (by decide) rfl rfl ?_
  exact j_sub (lsub_s (lsub_s (lsub_s (lsub_n (lsub_s lsub_0))))) (w_X7_order_126 h hk48 FU _ _ _ _ _ hf)
set_option maxRecDepth 20000 in
theorem w_X7_order_55 {g : GT} {K : KT} {P : PT} {res : Int32 × VT} (h : OK g RX7 cX7_order 5 (some .int)) {k48 : Nat → Int32 → Int32 → Int32 → VT → Option (Int32 × VT)} (hk48 : ∀ (l0 : Nat) (l1 : Int32) (l2 : Int32) (l3 : Int32) (V : VT), k48 l0 l1 l2 l3 V = some res → J g rm_X7_order (QF g (some (.int res.1)) K P res.2 0 0) 5 K P V 0 0 48 [some (.ref l0), some (.int l1), some (.int l2), some (.int l3), none] []) : ∀ (n : Nat) (l0 : Nat) (l1 : Int32) (l2 : Int32) (l4 : Int32) (V : VT), f_X7_order_55 K P k48 n l0 l1 l2 l4 V = some res → J g rm_X7_order (QF g (some (.int res.1)) K P res.2 0 0) 5 K P V 0 0 55 [some (.ref l0), some (.int l1), some (.int l2), none, some (.int l4)] [] := by
  intro n
  induction n with
  | zero => intro l0 l1 l2 l4 V hf; rw [f_X7_order_55] at hf; cases hf
  | succ n ih =>
    intro l0 l1 l2 l4 V hf
    rw [f_X7_order_55] at hf
    refine j_iload (q := 57) h dX7_order_55 rfl rfl ?_
    refine j_aload_n (q := 58) h dX7_order_57 rfl rfl ?_
    refine j_gI (q := 61) h uin_X7 rfl rfl (by decide) rfl fl_X7_84 dX7_order_58 rfl hf (fun hf => ?_)
    refine j_icmp_ge (q := 64) 89 h dX7_order_61 (by decide) rfl hf (fun hf => ?_) (fun hf => ?_)
    · refine j_aload_n (q := 90) h dX7_order_89 rfl rfl ?_
      refine j_cVv (q := 93) (As := []) h rfl hf (fun _ hx => ct_X7_layText _ _ _ hx) ml_X7_111 vw_X7_layText rf_X7_order_X7_layText ⟨Nat.zero_le _, Nat.zero_le _⟩ (Nat.le_of_ble_eq_true rfl) dX7_order_90 rfl (fun _ _ hf => ?_)
      refine j_aload_n (q := 94) h dX7_order_93 rfl rfl ?_
      refine j_aload_n (q := 95) h dX7_order_94 rfl rfl ?_
      refine j_gI (q := 98) h uin_X7 rfl rfl (by decide) rfl fl_X7_84 dX7_order_95 rfl hf (fun hf => ?_)
      refine j_bipush (q := 100) (-6) h dX7_order_98 kb_m6 rfl ?_
      refine j_cVi (q := 103) (As := [.int _, .int _]) h rfl hf (fun _ hx => ct_X7_goThrough _ _ _ hx) ml_X7_114 vw_X7_goThrough rf_X7_order_X7_goThrough ⟨Nat.zero_le _, Nat.zero_le _⟩ (Nat.le_of_ble_eq_true rfl) dX7_order_100 rfl (fun _ _ hf => ?_)
      refine j_if_ne (q := 106) 155 h dX7_order_103 (by decide) rfl hf (fun hf => ?_) (fun hf => ?_)
      · exact j_sub (lsub_s (lsub_s (lsub_s (lsub_n (lsub_n lsub_0))))) (w_X7_order_155 h hk48 hf)
      · refine j_iload_n (q := 107) h dX7_order_106 rfl rfl ?_
        refine j_if_lt (q := 110) 118 h dX7_order_107 (by decide) rfl hf (fun hf => ?_) (fun hf => ?_)
        · exact j_sub (lsub_s (lsub_s (lsub_n (lsub_n (lsub_n lsub_0))))) (w_X7_order_118 h hk48 hf)
        · refine j_aload_n (q := 111) h dX7_order_110 rfl rfl ?_
          refine j_gI (q := 114) h uin_X7 rfl rfl (by decide) rfl fl_X7_94 dX7_order_111 rfl hf (fun hf => ?_)
          refine j_iload_n (q := 115) h dX7_order_114 rfl rfl ?_
          refine j_icmp_ge (q := 118) 155 h dX7_order_115 (by decide) rfl hf (fun hf => ?_) (fun hf => ?_)
          · exact j_sub (lsub_s (lsub_s (lsub_s (lsub_n (lsub_n lsub_0))))) (w_X7_order_155 h hk48 hf)
          · exact j_sub (lsub_s (lsub_s (lsub_n (lsub_n (lsub_n lsub_0))))) (w_X7_order_118 h hk48 hf)
    · refine j_aload_n (q := 65) h dX7_order_64 rfl rfl ?_
      refine j_gR (q := 68) h uin_X7 rfl rfl (by decide) rfl fl_X7_28 dX7_order_65 rfl hf (fun b8 hf => ?_)
      refine j_iload (q := 70) h dX7_order_68 rfl rfl ?_
      refine j_aload_n (q := 71) h dX7_order_70 rfl rfl ?_
      refine j_gR (q := 74) h uin_X7 rfl rfl (by decide) rfl fl_X7_53 dX7_order_71 rfl hf (fun b9 hf => ?_)
      refine j_aload_n (q := 75) h dX7_order_74 rfl rfl ?_
      refine j_gR (q := 78) h uin_X7 rfl rfl (by decide) rfl fl_X7_47 dX7_order_75 rfl hf (fun b10 hf => ?_)
      refine j_iload (q := 80) h dX7_order_78 rfl rfl ?_
      refine j_iald (q := 81) h dX7_order_80 rfl hf (fun hf => ?_)
      refine j_iald (q := 82) h dX7_order_81 rfl hf (fun hf => ?_)
      refine j_iast (q := 83) h dX7_order_82 rfl hf (fun hf => ?_)
      refine j_iinc (q := 86) _ [_, _, _, _, _] h dX7_order_83 rfl (by decide) rfl (kc_1 _) rfl rfl ?_
      refine j_goto 55 h dX7_order_86 (by decide) ?_
      exact j_sub (lsub_s (lsub_s (lsub_s (lsub_n (lsub_s lsub_0))))) (ih _ _ _ _ _ hf)
set_option maxRecDepth 20000 in
theorem w_X7_order_48 {g : GT} {K : KT} {P : PT} {res : Int32 × VT} (h : OK g RX7 cX7_order 5 (some .int)) : ∀ (n : Nat) (l0 : Nat) (l1 : Int32) (l2 : Int32) (l3 : Int32) (V : VT), f_X7_order_48 K P n l0 l1 l2 l3 V = some res → J g rm_X7_order (QF g (some (.int res.1)) K P res.2 0 0) 5 K P V 0 0 48 [some (.ref l0), some (.int l1), some (.int l2), some (.int l3), none] [] := by
  intro n
  induction n with
  | zero => intro l0 l1 l2 l3 V hf; rw [f_X7_order_48] at hf; cases hf
  | succ n ih =>
    intro l0 l1 l2 l3 V hf
    rw [f_X7_order_48] at hf
    refine j_iload_n (q := 49) h dX7_order_48 rfl rfl ?_
    refine j_if_eq (q := 52) 163 h dX7_order_49 (by decide) rfl hf (fun hf => ?_) (fun hf => ?_)
    · refine j_iconst (q := 164) (0) h dX7_order_163 ki_0 rfl ?_
      refine j_istore (q := 166) [_, _, _, _, _] h dX7_order_164 rfl (by decide) rfl rfl ?_
      exact j_sub (lsub_s (lsub_s (lsub_s (lsub_n (lsub_s lsub_0))))) (w_X7_order_166 h FU _ _ _ _ _ hf)
    · refine j_iconst (q := 53) (0) h dX7_order_52 ki_0 rfl ?_
      refine j_istore (q := 55) [_, _, _, _, _] h dX7_order_53 rfl (by decide) rfl rfl ?_
      exact j_sub (lsub_s (lsub_s (lsub_s (lsub_n (lsub_s lsub_0))))) (w_X7_order_55 h ih FU _ _ _ _ _ hf)
set_option maxRecDepth 20000 in
theorem w_X7_order_47 {g : GT} {K : KT} {P : PT} {res : Int32 × VT} (h : OK g RX7 cX7_order 5 (some .int)) {l0 : Nat} {l1 : Int32} {l2 : Int32} {s0 : Int32} {V : VT} (hf : f_X7_order_47 K P l0 l1 l2 s0 V = some res) : J g rm_X7_order (QF g (some (.int res.1)) K P res.2 0 0) 5 K P V 0 0 47 [some (.ref l0), some (.int l1), some (.int l2), none, none] [.int s0] := by
  rw [f_X7_order_47] at hf
  refine j_istore_n (q := 48) [_, _, _, _, _] h dX7_order_47 rfl (by decide) rfl rfl ?_
  exact j_sub (lsub_s (lsub_s (lsub_s (lsub_s (lsub_n lsub_0))))) (w_X7_order_48 h FU _ _ _ _ _ hf)
set_option maxRecDepth 20000 in
theorem w_X7_order_2 {g : GT} {K : KT} {P : PT} {res : Int32 × VT} (h : OK g RX7 cX7_order 5 (some .int)) : ∀ (n : Nat) (l0 : Nat) (l1 : Int32) (l2 : Int32) (V : VT), f_X7_order_2 K P n l0 l1 l2 V = some res → J g rm_X7_order (QF g (some (.int res.1)) K P res.2 0 0) 5 K P V 0 0 2 [some (.ref l0), some (.int l1), some (.int l2), none, none] [] := by
  intro n
  induction n with
  | zero => intro l0 l1 l2 V hf; rw [f_X7_order_2] at hf; cases hf
  | succ n ih =>
    intro l0 l1 l2 V hf
    rw [f_X7_order_2] at hf
    refine j_iload_n (q := 3) h dX7_order_2 rfl rfl ?_
    refine j_iconst (q := 4) (5) h dX7_order_3 ki_5 rfl ?_
    refine j_icmp_ge (q := 7) 32 h dX7_order_4 (by decide) rfl hf (fun hf => ?_) (fun hf => ?_)
    · refine j_bipush (q := 34) (-6) h dX7_order_32 kb_m6 rfl ?_
      refine j_istore_n (q := 35) [_, _, _, _, _] h dX7_order_34 rfl (by decide) rfl rfl ?_
      refine j_aload_n (q := 36) h dX7_order_35 rfl rfl ?_
      refine j_gI (q := 39) h uin_X7 rfl rfl (by decide) rfl fl_X7_84 dX7_order_36 rfl hf (fun hf => ?_)
      refine j_if_le (q := 42) 46 h dX7_order_39 (by decide) rfl hf (fun hf => ?_) (fun hf => ?_)
      · refine j_iconst (q := 47) (0) h dX7_order_46 ki_0 rfl ?_
        exact j_sub (lsub_s (lsub_s (lsub_s (lsub_n (lsub_n lsub_0))))) (w_X7_order_47 h hf)
      · refine j_iconst (q := 43) (1) h dX7_order_42 ki_1 rfl ?_
        refine j_goto 47 h dX7_order_43 (by decide) ?_
        exact j_sub (lsub_s (lsub_s (lsub_s (lsub_n (lsub_n lsub_0))))) (w_X7_order_47 h hf)
    · refine j_aload_n (q := 8) h dX7_order_7 rfl rfl ?_
      refine j_gR (q := 11) h uin_X7 rfl rfl (by decide) rfl fl_X7_47 dX7_order_8 rfl hf (fun b2 hf => ?_)
      refine j_iload_n (q := 12) h dX7_order_11 rfl rfl ?_
      refine j_iload_n (q := 13) h dX7_order_12 rfl rfl ?_
      refine j_iast (q := 14) h dX7_order_13 rfl hf (fun hf => ?_)
      refine j_aload_n (q := 15) h dX7_order_14 rfl rfl ?_
      refine j_gR (q := 18) h uin_X7 rfl rfl (by decide) rfl fl_X7_53 dX7_order_15 rfl hf (fun b4 hf => ?_)
      refine j_iload_n (q := 19) h dX7_order_18 rfl rfl ?_
      refine j_aload_n (q := 20) h dX7_order_19 rfl rfl ?_
      refine j_gR (q := 23) h uin_X7 rfl rfl (by decide) rfl fl_X7_28 dX7_order_20 rfl hf (fun b5 hf => ?_)
      refine j_iload_n (q := 24) h dX7_order_23 rfl rfl ?_
      refine j_iald (q := 25) h dX7_order_24 rfl hf (fun hf => ?_)
      refine j_iast (q := 26) h dX7_order_25 rfl hf (fun hf => ?_)
      refine j_iinc (q := 29) _ [_, _, _, _, _] h dX7_order_26 rfl (by decide) rfl (kc_1 _) rfl rfl ?_
      refine j_goto 2 h dX7_order_29 (by decide) ?_
      exact j_sub (lsub_s (lsub_s (lsub_s (lsub_n (lsub_n lsub_0))))) (ih _ _ _ _ hf)
set_option maxRecDepth 20000 in
theorem w_X7_order_0 {g : GT} {K : KT} {P : PT} {res : Int32 × VT} (h : OK g RX7 cX7_order 5 (some .int)) {l0 : Nat} {l1 : Int32} {V : VT} (hf : f_X7_order K P l0 l1 V = some res) : J g rm_X7_order (QF g (some (.int res.1)) K P res.2 0 0) 5 K P V 0 0 0 [some (.ref l0), some (.int l1), none, none, none] [] := by
  rw [f_X7_order] at hf
  refine j_iconst (q := 1) (0) h dX7_order_0 ki_0 rfl ?_
  refine j_istore_n (q := 2) [_, _, _, _, _] h dX7_order_1 rfl (by decide) rfl rfl ?_
  exact j_sub (lsub_s (lsub_s (lsub_s (lsub_n (lsub_n lsub_0))))) (w_X7_order_2 h FU _ _ _ _ hf)
theorem ct_X7_order (l : Launch) (D : va_G) (T : TT) {K : KT} {P : PT} {l0 : Nat} {l1 : Int32} {V : VT} {res : Int32 × VT} (hf : f_X7_order K P l0 l1 V = some res) : CT l D T yX7_order cX7_order 5 (some .int) rm_X7_order K P V [.ref l0, .int l1] (some (.int res.1)) res.2 :=
  fun _ => CT_of pn_X7 (cat_a (cat_i cat_0)) (Nat.le_of_ble_eq_true rfl) [some (.ref l0), some (.int l1), none, none, none] rfl (fun _ _ _ h => w_X7_order_0 h hf)
/-! QuotedLayersModel.image(I)I -/
def rm_X7_image : Room := { frames := 1, cells := 0, slots := 0, locals := 22 }
theorem rf_X7_image_X7_in : RF rm_X7_in rm_X7_image 3 := ⟨⟨by decide, by decide⟩, rfl, rfl⟩
def f_X7_image_144 (K : KT) (P : PT) : Nat → Nat → Int32 → Int32 → Int32 → VT → Option (Int32 × VT)
  | 0, _, _, _, _, _ => none
  | n + 1, l0, l1, l2, l3, V => if l3 < ((12 : Int32)) then (gR K P l0 5 20 fun b9 => gR K P l0 5 10 fun b10 => aI K V 0 b10 l3 fun x11 => sA K V b9 ((l2 + ((55 : Int32))) + l3) x11 fun V12 => (f_X7_image_144 K P n) l0 l1 l2 (l3 + (1 : Int32)) V12) else (gR K P l0 5 20 fun b1 => gI K V l0 5 7 fun x2 => sA K V b1 (l2 + ((67 : Int32))) x2 fun V3 => gR K P l0 5 20 fun b4 => gI K V3 l0 5 9 fun x5 => sA K V3 b4 (l2 + ((68 : Int32))) x5 fun V6 => gR K P l0 5 21 fun b7 => sZ K V6 b7 l1 ((1 : Int32)) fun V8 => some ((1 : Int32), V8))
def f_X7_image_113 (K : KT) (P : PT) : Nat → Nat → Int32 → Int32 → Int32 → VT → Option (Int32 × VT)
  | 0, _, _, _, _, _ => none
  | n + 1, l0, l1, l2, l3, V => if l3 < ((30 : Int32)) then (gR K P l0 5 20 fun b1 => gR K P l0 5 6 fun b2 => aI K V 0 b2 l3 fun x3 => sA K V b1 ((l2 + ((25 : Int32))) + l3) x3 fun V4 => (f_X7_image_113 K P n) l0 l1 l2 (l3 + (1 : Int32)) V4) else (f_X7_image_144 K P FU l0 l1 l2 ((0 : Int32)) V)
def f_X7_image_19 (K : KT) (P : PT) : Nat → Nat → Int32 → Int32 → Int32 → VT → Option (Int32 × VT)
  | 0, _, _, _, _, _ => none
  | n + 1, l0, l1, l2, l3, V => if l3 < ((5 : Int32)) then (gR K P l0 5 20 fun b1 => gR K P l0 5 2 fun b2 => aI K V 0 b2 l3 fun x3 => sA K V b1 (l2 + l3) x3 fun V4 => gR K P l0 5 20 fun b5 => gR K P l0 5 3 fun b6 => aI K V4 0 b6 l3 fun x7 => sA K V4 b5 ((l2 + ((5 : Int32))) + l3) x7 fun V8 => gR K P l0 5 20 fun b9 => gR K P l0 5 4 fun b10 => aI K V8 0 b10 l3 fun x11 => sA K V8 b9 ((l2 + ((10 : Int32))) + l3) x11 fun V12 => gR K P l0 5 20 fun b13 => gR K P l0 5 5 fun b14 => aI K V12 0 b14 l3 fun x15 => sA K V12 b13 ((l2 + ((15 : Int32))) + l3) x15 fun V16 => gR K P l0 5 20 fun b17 => gR K P l0 5 8 fun b18 => aI K V16 0 b18 l3 fun x19 => sA K V16 b17 ((l2 + ((20 : Int32))) + l3) x19 fun V20 => (f_X7_image_19 K P n) l0 l1 l2 (l3 + (1 : Int32)) V20) else (f_X7_image_113 K P FU l0 l1 l2 ((0 : Int32)) V)
def f_X7_image (K : KT) (P : PT) (l0 : Nat) (l1 : Int32) (V : VT) : Option (Int32 × VT) :=
  cS (f_X7_in K P l1 ((0 : Int32)) ((1 : Int32)) V) fun x2 V1 => if x2 = 0 then (some ((-2 : Int32), V1)) else (f_X7_image_19 K P FU l0 l1 (((70 : Int32)) * l1) ((0 : Int32)) V1)
set_option maxRecDepth 20000 in
theorem w_X7_image_144 {g : GT} {K : KT} {P : PT} {res : Int32 × VT} (h : OK g RX7 cX7_image 4 (some .int)) : ∀ (n : Nat) (l0 : Nat) (l1 : Int32) (l2 : Int32) (l3 : Int32) (V : VT), f_X7_image_144 K P n l0 l1 l2 l3 V = some res → J g rm_X7_image (QF g (some (.int res.1)) K P res.2 0 0) 4 K P V 0 0 144 [some (.ref l0), some (.int l1), some (.int l2), some (.int l3)] [] := by
  intro n
  induction n with
  | zero => intro l0 l1 l2 l3 V hf; rw [f_X7_image_144] at hf; cases hf
  | succ n ih =>
    intro l0 l1 l2 l3 V hf
    rw [f_X7_image_144] at hf
    refine j_iload_n (q := 145) h dX7_image_144 rfl rfl ?_
    refine j_bipush (q := 147) (12) h dX7_image_145 kb_12 rfl ?_
    refine j_icmp_ge (q := 150) 173 h dX7_image_147 (by decide) rfl hf (fun hf => ?_) (fun hf => ?_)
    · refine j_aload_n (q := 174) h dX7_image_173 rfl rfl ?_
      refine j_gR (q := 177) h uin_X7 rfl rfl (by decide) rfl fl_X7_56 dX7_image_174 rfl hf (fun b1 hf => ?_)
      refine j_iload_n (q := 178) h dX7_image_177 rfl rfl ?_
      refine j_bipush (q := 180) (67) h dX7_image_178 kb_67 rfl ?_
      refine j_iadd (q := 181) h dX7_image_180 rfl ?_
      refine j_aload_n (q := 182) h dX7_image_181 rfl rfl ?_
      refine j_gI (q := 185) h uin_X7 rfl rfl (by decide) rfl fl_X7_84 dX7_image_182 rfl hf (fun hf => ?_)
      refine j_iast (q := 186) h dX7_image_185 rfl hf (fun hf => ?_)
      refine j_aload_n (q := 187) h dX7_image_186 rfl rfl ?_
      refine j_gR (q := 190) h uin_X7 rfl rfl (by decide) rfl fl_X7_56 dX7_image_187 rfl hf (fun b4 hf => ?_)
      refine j_iload_n (q := 191) h dX7_image_190 rfl rfl ?_
      refine j_bipush (q := 193) (68) h dX7_image_191 kb_68 rfl ?_
      refine j_iadd (q := 194) h dX7_image_193 rfl ?_
      refine j_aload_n (q := 195) h dX7_image_194 rfl rfl ?_
      refine j_gI (q := 198) h uin_X7 rfl rfl (by decide) rfl fl_X7_31 dX7_image_195 rfl hf (fun hf => ?_)
      refine j_iast (q := 199) h dX7_image_198 rfl hf (fun hf => ?_)
      refine j_aload_n (q := 200) h dX7_image_199 rfl rfl ?_
      refine j_gR (q := 203) h uin_X7 rfl rfl (by decide) rfl fl_X7_59 dX7_image_200 rfl hf (fun b7 hf => ?_)
      refine j_iload_n (q := 204) h dX7_image_203 rfl rfl ?_
      refine j_iconst (q := 205) (1) h dX7_image_204 ki_1 rfl ?_
      refine j_zast (q := 206) h dX7_image_205 rfl hf (fun hf => ?_)
      refine j_iconst (q := 207) (1) h dX7_image_206 ki_1 rfl ?_
      exact j_iret h dX7_image_207 hf
    · refine j_aload_n (q := 151) h dX7_image_150 rfl rfl ?_
      refine j_gR (q := 154) h uin_X7 rfl rfl (by decide) rfl fl_X7_56 dX7_image_151 rfl hf (fun b9 hf => ?_)
      refine j_iload_n (q := 155) h dX7_image_154 rfl rfl ?_
      refine j_bipush (q := 157) (55) h dX7_image_155 kb_55 rfl ?_
      refine j_iadd (q := 158) h dX7_image_157 rfl ?_
      refine j_iload_n (q := 159) h dX7_image_158 rfl rfl ?_
      refine j_iadd (q := 160) h dX7_image_159 rfl ?_
      refine j_aload_n (q := 161) h dX7_image_160 rfl rfl ?_
      refine j_gR (q := 164) h uin_X7 rfl rfl (by decide) rfl fl_X7_35 dX7_image_161 rfl hf (fun b10 hf => ?_)
      refine j_iload_n (q := 165) h dX7_image_164 rfl rfl ?_
      refine j_iald (q := 166) h dX7_image_165 rfl hf (fun hf => ?_)
      refine j_iast (q := 167) h dX7_image_166 rfl hf (fun hf => ?_)
      refine j_iinc (q := 170) _ [_, _, _, _] h dX7_image_167 rfl (by decide) rfl (kc_1 _) rfl rfl ?_
      refine j_goto 144 h dX7_image_170 (by decide) ?_
      exact j_sub (lsub_s (lsub_s (lsub_s (lsub_s lsub_0)))) (ih _ _ _ _ _ hf)
set_option maxRecDepth 20000 in
theorem w_X7_image_113 {g : GT} {K : KT} {P : PT} {res : Int32 × VT} (h : OK g RX7 cX7_image 4 (some .int)) : ∀ (n : Nat) (l0 : Nat) (l1 : Int32) (l2 : Int32) (l3 : Int32) (V : VT), f_X7_image_113 K P n l0 l1 l2 l3 V = some res → J g rm_X7_image (QF g (some (.int res.1)) K P res.2 0 0) 4 K P V 0 0 113 [some (.ref l0), some (.int l1), some (.int l2), some (.int l3)] [] := by
  intro n
  induction n with
  | zero => intro l0 l1 l2 l3 V hf; rw [f_X7_image_113] at hf; cases hf
  | succ n ih =>
    intro l0 l1 l2 l3 V hf
    rw [f_X7_image_113] at hf
    refine j_iload_n (q := 114) h dX7_image_113 rfl rfl ?_
    refine j_bipush (q := 116) (30) h dX7_image_114 kb_30 rfl ?_
    refine j_icmp_ge (q := 119) 142 h dX7_image_116 (by decide) rfl hf (fun hf => ?_) (fun hf => ?_)
    · refine j_iconst (q := 143) (0) h dX7_image_142 ki_0 rfl ?_
      refine j_istore_n (q := 144) [_, _, _, _] h dX7_image_143 rfl (by decide) rfl rfl ?_
      exact j_sub (lsub_s (lsub_s (lsub_s (lsub_s lsub_0)))) (w_X7_image_144 h FU _ _ _ _ _ hf)
    · refine j_aload_n (q := 120) h dX7_image_119 rfl rfl ?_
      refine j_gR (q := 123) h uin_X7 rfl rfl (by decide) rfl fl_X7_56 dX7_image_120 rfl hf (fun b1 hf => ?_)
      refine j_iload_n (q := 124) h dX7_image_123 rfl rfl ?_
      refine j_bipush (q := 126) (25) h dX7_image_124 kb_25 rfl ?_
      refine j_iadd (q := 127) h dX7_image_126 rfl ?_
      refine j_iload_n (q := 128) h dX7_image_127 rfl rfl ?_
      refine j_iadd (q := 129) h dX7_image_128 rfl ?_
      refine j_aload_n (q := 130) h dX7_image_129 rfl rfl ?_
      refine j_gR (q := 133) h uin_X7 rfl rfl (by decide) rfl fl_X7_25 dX7_image_130 rfl hf (fun b2 hf => ?_)
      refine j_iload_n (q := 134) h dX7_image_133 rfl rfl ?_
      refine j_iald (q := 135) h dX7_image_134 rfl hf (fun hf => ?_)
      refine j_iast (q := 136) h dX7_image_135 rfl hf (fun hf => ?_)
      refine j_iinc (q := 139) _ [_, _, _, _] h dX7_image_136 rfl (by decide) rfl (kc_1 _) rfl rfl ?_
      refine j_goto 113 h dX7_image_139 (by decide) ?_
      exact j_sub (lsub_s (lsub_s (lsub_s (lsub_s lsub_0)))) (ih _ _ _ _ _ hf)
set_option maxRecDepth 20000 in
theorem w_X7_image_19 {g : GT} {K : KT} {P : PT} {res : Int32 × VT} (h : OK g RX7 cX7_image 4 (some .int)) : ∀ (n : Nat) (l0 : Nat) (l1 : Int32) (l2 : Int32) (l3 : Int32) (V : VT), f_X7_image_19 K P n l0 l1 l2 l3 V = some res → J g rm_X7_image (QF g (some (.int res.1)) K P res.2 0 0) 4 K P V 0 0 19 [some (.ref l0), some (.int l1), some (.int l2), some (.int l3)] [] := by
  intro n
  induction n with
  | zero => intro l0 l1 l2 l3 V hf; rw [f_X7_image_19] at hf; cases hf
  | succ n ih =>
    intro l0 l1 l2 l3 V hf
    rw [f_X7_image_19] at hf
    refine j_iload_n (q := 20) h dX7_image_19 rfl rfl ?_
    refine j_iconst (q := 21) (5) h dX7_image_20 ki_5 rfl ?_
    refine j_icmp_ge (q := 24) 111 h dX7_image_21 (by decide) rfl hf (fun hf => ?_) (fun hf => ?_)
    · refine j_iconst (q := 112) (0) h dX7_image_111 ki_0 rfl ?_
      refine j_istore_n (q := 113) [_, _, _, _] h dX7_image_112 rfl (by decide) rfl rfl ?_
      exact j_sub (lsub_s (lsub_s (lsub_s (lsub_s lsub_0)))) (w_X7_image_113 h FU _ _ _ _ _ hf)
    · refine j_aload_n (q := 25) h dX7_image_24 rfl rfl ?_
      refine j_gR (q := 28) h uin_X7 rfl rfl (by decide) rfl fl_X7_56 dX7_image_25 rfl hf (fun b1 hf => ?_)
      refine j_iload_n (q := 29) h dX7_image_28 rfl rfl ?_
      refine j_iload_n (q := 30) h dX7_image_29 rfl rfl ?_
      refine j_iadd (q := 31) h dX7_image_30 rfl ?_
      refine j_aload_n (q := 32) h dX7_image_31 rfl rfl ?_
      refine j_gR (q := 35) h uin_X7 rfl rfl (by decide) rfl fl_X7_13 dX7_image_32 rfl hf (fun b2 hf => ?_)
      refine j_iload_n (q := 36) h dX7_image_35 rfl rfl ?_
      refine j_iald (q := 37) h dX7_image_36 rfl hf (fun hf => ?_)
      refine j_iast (q := 38) h dX7_image_37 rfl hf (fun hf => ?_)
      refine j_aload_n (q := 39) h dX7_image_38 rfl rfl ?_
      refine j_gR (q := 42) h uin_X7 rfl rfl (by decide) rfl fl_X7_56 dX7_image_39 rfl hf (fun b5 hf => ?_)
      refine j_iload_n (q := 43) h dX7_image_42 rfl rfl ?_
      refine j_iconst (q := 44) (5) h dX7_image_43 ki_5 rfl ?_
      refine j_iadd (q := 45) h dX7_image_44 rfl ?_
      refine j_iload_n (q := 46) h dX7_image_45 rfl rfl ?_
      refine j_iadd (q := 47) h dX7_image_46 rfl ?_
      refine j_aload_n (q := 48) h dX7_image_47 rfl rfl ?_
      refine j_gR (q := 51) h uin_X7 rfl rfl (by decide) rfl fl_X7_16 dX7_image_48 rfl hf (fun b6 hf => ?_)
      refine j_iload_n (q := 52) h dX7_image_51 rfl rfl ?_
      refine j_iald (q := 53) h dX7_image_52 rfl hf (fun hf => ?_)
      refine j_iast (q := 54) h dX7_image_53 rfl hf (fun hf => ?_)
      refine j_aload_n (q := 55) h dX7_image_54 rfl rfl ?_
      refine j_gR (q := 58) h uin_X7 rfl rfl (by decide) rfl fl_X7_56 dX7_image_55 rfl hf (fun b9 hf => ?_)
      refine j_iload_n (q := 59) h dX7_image_58 rfl rfl ?_
      refine j_bipush (q := 61) (10) h dX7_image_59 kb_10 rfl ?_
      refine j_iadd (q := 62) h dX7_image_61 rfl ?_
      refine j_iload_n (q := 63) h dX7_image_62 rfl rfl ?_
      refine j_iadd (q := 64) h dX7_image_63 rfl ?_
      refine j_aload_n (q := 65) h dX7_image_64 rfl rfl ?_
      refine j_gR (q := 68) h uin_X7 rfl rfl (by decide) rfl fl_X7_19 dX7_image_65 rfl hf (fun b10 hf => ?_)
      refine j_iload_n (q := 69) h dX7_image_68 rfl rfl ?_
      refine j_iald (q := 70) h dX7_image_69 rfl hf (fun hf => ?_)
      refine j_iast (q := 71) h dX7_image_70 rfl hf (fun hf => ?_)
      refine j_aload_n (q := 72) h dX7_image_71 rfl rfl ?_
      refine j_gR (q := 75) h uin_X7 rfl rfl (by decide) rfl fl_X7_56 dX7_image_72 rfl hf (fun b13 hf => ?_)
      refine j_iload_n (q := 76) h dX7_image_75 rfl rfl ?_
      refine j_bipush (q := 78) (15) h dX7_image_76 kb_15 rfl ?_
      refine j_iadd (q := 79) h dX7_image_78 rfl ?_
      refine j_iload_n (q := 80) h dX7_image_79 rfl rfl ?_
      refine j_iadd (q := 81) h dX7_image_80 rfl ?_
      refine j_aload_n (q := 82) h dX7_image_81 rfl rfl ?_
      refine j_gR (q := 85) h uin_X7 rfl rfl (by decide) rfl fl_X7_22 dX7_image_82 rfl hf (fun b14 hf => ?_)
      refine j_iload_n (q := 86) h dX7_image_85 rfl rfl ?_
      refine j_iald (q := 87) h dX7_image_86 rfl hf (fun hf => ?_)
      refine j_iast (q := 88) h dX7_image_87 rfl hf (fun hf => ?_)
      refine j_aload_n (q := 89) h dX7_image_88 rfl rfl ?_
      refine j_gR (q := 92) h uin_X7 rfl rfl (by decide) rfl fl_X7_56 dX7_image_89 rfl hf (fun b17 hf => ?_)
      refine j_iload_n (q := 93) h dX7_image_92 rfl rfl ?_
      refine j_bipush (q := 95) (20) h dX7_image_93 kb_20 rfl ?_
      refine j_iadd (q := 96) h dX7_image_95 rfl ?_
      refine j_iload_n (q := 97) h dX7_image_96 rfl rfl ?_
      refine j_iadd (q := 98) h dX7_image_97 rfl ?_
      refine j_aload_n (q := 99) h dX7_image_98 rfl rfl ?_
      refine j_gR (q := 102) h uin_X7 rfl rfl (by decide) rfl fl_X7_28 dX7_image_99 rfl hf (fun b18 hf => ?_)
      refine j_iload_n (q := 103) h dX7_image_102 rfl rfl ?_
      refine j_iald (q := 104) h dX7_image_103 rfl hf (fun hf => ?_)
      refine j_iast (q := 105) h dX7_image_104 rfl hf (fun hf => ?_)
      refine j_iinc (q := 108) _ [_, _, _, _] h dX7_image_105 rfl (by decide) rfl (kc_1 _) rfl rfl ?_
      refine j_goto 19 h dX7_image_108 (by decide) ?_
      exact j_sub (lsub_s (lsub_s (lsub_s (lsub_s lsub_0)))) (ih _ _ _ _ _ hf)
set_option maxRecDepth 20000 in
theorem w_X7_image_0 {g : GT} {K : KT} {P : PT} {res : Int32 × VT} (h : OK g RX7 cX7_image 4 (some .int)) {l0 : Nat} {l1 : Int32} {V : VT} (hf : f_X7_image K P l0 l1 V = some res) : J g rm_X7_image (QF g (some (.int res.1)) K P res.2 0 0) 4 K P V 0 0 0 [some (.ref l0), some (.int l1), none, none] [] := by
  rw [f_X7_image] at hf
  refine j_iload_n (q := 1) h dX7_image_0 rfl rfl ?_
  refine j_iconst (q := 2) (0) h dX7_image_1 ki_0 rfl ?_
  refine j_iconst (q := 3) (1) h dX7_image_2 ki_1 rfl ?_
  refine j_cSi (q := 6) (As := [.int _, .int _, .int _]) h rfl hf (fun _ hx => ct_X7_in _ _ _ hx) ml_X7_63 sw_X7_in rf_X7_image_X7_in ⟨Nat.zero_le _, Nat.zero_le _⟩ (Nat.le_of_ble_eq_true rfl) dX7_image_3 rfl (fun _ _ hf => ?_)
  refine j_if_ne (q := 9) 12 h dX7_image_6 (by decide) rfl hf (fun hf => ?_) (fun hf => ?_)
  · refine j_bipush (q := 14) (70) h dX7_image_12 kb_70 rfl ?_
    refine j_iload_n (q := 15) h dX7_image_14 rfl rfl ?_
    refine j_imul (q := 16) h dX7_image_15 rfl ?_
    refine j_istore_n (q := 17) [_, _, _, _] h dX7_image_16 rfl (by decide) rfl rfl ?_
    refine j_iconst (q := 18) (0) h dX7_image_17 ki_0 rfl ?_
    refine j_istore_n (q := 19) [_, _, _, _] h dX7_image_18 rfl (by decide) rfl rfl ?_
    exact j_sub (lsub_s (lsub_s (lsub_s (lsub_s lsub_0)))) (w_X7_image_19 h FU _ _ _ _ _ hf)
  · refine j_bipush (q := 11) (-2) h dX7_image_9 kb_m2 rfl ?_
    exact j_iret h dX7_image_11 hf
theorem ct_X7_image (l : Launch) (D : va_G) (T : TT) {K : KT} {P : PT} {l0 : Nat} {l1 : Int32} {V : VT} {res : Int32 × VT} (hf : f_X7_image K P l0 l1 V = some res) : CT l D T yX7_image cX7_image 4 (some .int) rm_X7_image K P V [.ref l0, .int l1] (some (.int res.1)) res.2 :=
  fun _ => CT_of pn_X7 (cat_a (cat_i cat_0)) (Nat.le_of_ble_eq_true rfl) [some (.ref l0), some (.int l1), none, none] rfl (fun _ _ _ h => w_X7_image_0 h hf)
