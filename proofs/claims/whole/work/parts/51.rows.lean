/-! PURE PART, 2: Row's loops -/
def bI (b : Bool) : Int32 := if b = true then 1 else 0
theorem bI_01 (b : Bool) : bI b = 0 ∨ bI b = 1 := by cases b <;> simp [bI]
theorem bI_eq0 {b : Bool} : bI b = 0 ↔ b = false := by cases b <;> simp [bI]
theorem rB_bI {V : VT} (b : Bool) : rB (bI b) V = some (bI b, V) := rB_k (bI_01 b)
theorem FU_lt {n : Nat} (h : n < 1000000) : n < FU := by unfold FU; omega
theorem take_next {l : List Int32} {i : Nat} (h : i < l.length) (d : Int32) : l.take i ++ [l.getD i d] = l.take (i + 1) := by
  rw [List.take_add_one, List.getD_eq_getElem?_getD, List.getElem?_eq_getElem h]; rfl
theorem drop_next {l : List Int32} {i : Nat} (h : i < l.length) (d : Int32) : l.drop i = l.getD i d :: l.drop (i + 1) := by
  rw [List.getD_eq_getElem?_getD, List.getElem?_eq_getElem h]
  exact List.drop_eq_getElem_cons h
section ROW2
variable {K : KT} {P : PT} {r N : Nat} {l : List Int32} {o : Int32}
theorem row_copyFirst_loop (hN : N < 2 ^ 31) (hK : RowK K P r N) {q M : Nat} {l2 : List Int32} {o2 : Int32} (hM : M < 2 ^ 31) (hKq : RowK K P q M) (hd : r + 2 ≤ q ∨ q + 2 ≤ r) {k : Nat} (hk : k ≤ l2.length) (hkN : k ≤ N) :
    ∀ (n i : Nat) (V : VT), i ≤ k → k - i < n → RowV V r N (l2.take i) 0 → RowV V q M l2 o2 → ∃ V2, f_X4_copyFirst_6 K P n r q (nI k) (nI i) V = some ((), V2) ∧ RowV V2 r N (l2.take k) 0 ∧ Fr r (r + 2) V V2 := by
  intro n
  induction n with
  | zero => intro i V _ h; omega
  | succ n ih =>
    intro i V hik hn hV hq
    have hl2 : l2.length < 2 ^ 31 := Nat.lt_of_le_of_lt hq.2.1 hM
    rw [f_X4_copyFirst_6]
    by_cases h : i < k
    · rw [if_pos ((nI_ltI (by omega) (by omega)).mpr h), cV_k hKq.1 (row_size hKq hq), if_pos ((nI_ltI (by omega) hl2).mpr (by omega)), cV_k hKq.1 (row_atn hM hKq hq (by omega))]
      obtain ⟨V2, e2, h2, f2⟩ := row_add hN hK hV (by rw [List.length_take]; omega) (l2.getD i (-6))
      rw [cV_k hK.1 e2, nI_1]
      rw [take_next (by omega)] at h2
      obtain ⟨V3, e3, h3, f3⟩ := ih (i + 1) V2 (by omega) (by omega) h2 (hq.fr f2 (by omega))
      exact ⟨V3, e3, h3, f2.tr f3⟩
    · have : i = k := by omega
      subst this
      rw [if_neg (fun z => h ((nI_ltI (by omega) (by omega)).mp z))]
      exact ⟨V, rfl, hV, Fr.rf⟩
theorem row_copyFirst (hN : N < 2 ^ 31) (hK : RowK K P r N) {V : VT} {q M : Nat} {l2 : List Int32} {o2 : Int32} (hM : M < 2 ^ 31) (hKq : RowK K P q M) (hd : r + 2 ≤ q ∨ q + 2 ≤ r) {k : Nat} (hk : k ≤ l2.length) (hkN : k ≤ N) (hq : RowV V q M l2 o2) (hk6 : k < 1000000) :
    ∃ V2, f_X4_copyFirst K P r q (nI k) V = some ((), V2) ∧ RowV V2 r N (l2.take k) 0 ∧ Fr r (r + 2) V V2 := by
  obtain ⟨V1, e1, h1, f1⟩ := row_clear hK V
  obtain ⟨V2, e2, h2, f2⟩ := row_copyFirst_loop hN hK hM hKq hd hk hkN FU 0 V1 (by omega) (FU_lt (by omega)) (by simpa using h1) (hq.fr f1 (by omega))
  rw [nI_0] at e2
  refine ⟨V2, ?_, h2, f1.tr f2⟩
  rw [f_X4_copyFirst, cV_k hK.1 e1, e2]
theorem row_copyFrom (hN : N < 2 ^ 31) (hK : RowK K P r N) {V : VT} {q M : Nat} {l2 : List Int32} {o2 : Int32} (hM : M < 2 ^ 31) (hKq : RowK K P q M) (hd : r + 2 ≤ q ∨ q + 2 ≤ r) (hkN : l2.length ≤ N) (hq : RowV V q M l2 o2) (hk6 : l2.length < 1000000) :
    ∃ V2, f_X4_copyFrom K P r q V = some ((), V2) ∧ RowV V2 r N l2 0 ∧ Fr r (r + 2) V V2 := by
  obtain ⟨V2, e2, h2, f2⟩ := row_copyFirst hN hK hM hKq hd (Nat.le_refl l2.length) hkN hq hk6
  rw [List.take_length] at h2
  refine ⟨V2, ?_, h2, f2⟩
  rw [f_X4_copyFrom, cV_k hKq.1 (row_size hKq hq), cV_k hK.1 e2]
theorem row_hasAhead_loop (hN : N < 2 ^ 31) (hK : RowK K P r N) {V : VT} (hV : RowV V r N l o) (x : Int32) {e : Nat} (he : e < 2 ^ 31) :
    ∀ (n i : Nat), l.length + 1 - i < n → i < 2 ^ 31 → f_X4_hasAhead_2 K P n r x (nI e) (nI i) V = some (bI (decide (x ∈ (l.take e).drop i)), V) := by
  intro n
  induction n with
  | zero => intro i h; omega
  | succ n ih =>
    intro i hn hi
    have hl : l.length < 2 ^ 31 := Nat.lt_of_le_of_lt hV.2.1 hN
    rw [f_X4_hasAhead_2]
    by_cases h : i < e
    · rw [if_pos ((nI_ltI hi he).mpr h), gI_k hK.1, hV.1]
      by_cases h2 : i < l.length
      · have hv : V (r + 1) i = l.getD i (-6) := by
          rw [hV.2.2.1 i l[i] (List.getElem?_eq_getElem h2), List.getD_eq_getElem?_getD, List.getElem?_eq_getElem h2]; rfl
        have hiN : i < N := Nat.lt_of_lt_of_le h2 hV.2.1
        rw [if_pos ((nI_ltI hi hl).mpr h2), gR_k hK.1 hK.2.1, aN_k hK.2.2 (by decide), if_pos ((nI_ltI hi hN).mpr hiN), gR_k hK.1 hK.2.1, aI_n hK.2.2 hiN hN, hv]
        have ht : i < (l.take e).length := by rw [List.length_take]; omega
        have hg : (l.take e).getD i (-6) = l.getD i (-6) := by
          rw [List.getD_eq_getElem?_getD, List.getD_eq_getElem?_getD, List.getElem?_take, if_pos h]
        rw [drop_next ht (-6), hg]
        by_cases hx : l.getD i (-6) = x
        · rw [if_pos hx, rB_1, decide_eq_true (show x ∈ l.getD i (-6) :: (l.take e).drop (i + 1) by rw [hx]; exact List.mem_cons_self)]
          rfl
        · rw [if_neg hx, nI_1, ih (i + 1) (by omega) (by omega)]
          have : x ≠ l.getD i (-6) := fun z => hx z.symm
          simp only [List.mem_cons, this, false_or]
      · rw [if_neg (fun z => h2 ((nI_ltI hi hl).mp z)), rB_0, List.drop_eq_nil_of_le (by rw [List.length_take]; omega)]
        simp [bI]
    · rw [if_neg (fun z => h ((nI_ltI hi he).mp z)), rB_0, List.drop_eq_nil_of_le (by rw [List.length_take]; omega)]
      simp [bI]
theorem row_hasAhead (hN : N < 1000) (hK : RowK K P r N) {V : VT} (hV : RowV V r N l o) (x : Int32) {e : Nat} (he : e < 2 ^ 31) : f_X4_hasAhead K P r x (nI e) V = some (bI (decide (x ∈ l.take e)), V) := by
  have := row_hasAhead_loop (by omega) hK hV x he FU 0 (FU_lt (by have := hV.2.1; omega)) (by omega)
  rw [nI_0, List.drop_zero] at this
  rw [f_X4_hasAhead, this]
theorem row_sameAs_loop (hN : N < 2 ^ 31) (hK : RowK K P r N) {V : VT} (hV : RowV V r N l o) {q M : Nat} {l2 : List Int32} {o2 : Int32} (hM : M < 2 ^ 31) (hKq : RowK K P q M) (hq : RowV V q M l2 o2) (hll : l.length = l2.length) :
    ∀ (n i : Nat), l.length + 1 - i < n → i < 2 ^ 31 → f_X4_sameAs_15 K P n r q (nI i) V = some (bI (decide (l.drop i = l2.drop i)), V) := by
  intro n
  induction n with
  | zero => intro i h; omega
  | succ n ih =>
    intro i hn hi
    have hl : l.length < 2 ^ 31 := Nat.lt_of_le_of_lt hV.2.1 hN
    rw [f_X4_sameAs_15, gI_k hK.1, hV.1]
    by_cases h2 : i < l.length
    · rw [if_pos ((nI_ltI hi hl).mpr h2), cV_k hK.1 (row_atn hN hK hV hi), cV_k hKq.1 (row_atn hM hKq hq hi), drop_next h2 (-6), drop_next (l := l2) (by omega) (-6)]
      by_cases hx : l.getD i (-6) = l2.getD i (-6)
      · rw [if_pos hx, nI_1, ih (i + 1) (by omega) (by omega), hx]
        simp
      · rw [if_neg hx, rB_0]
        have : ¬ (l.getD i (-6) :: l.drop (i + 1) = l2.getD i (-6) :: l2.drop (i + 1)) := fun z => hx (List.cons.inj z).1
        rw [decide_eq_false this]; rfl
    · rw [if_neg (fun z => h2 ((nI_ltI hi hl).mp z)), rB_1, List.drop_eq_nil_of_le (by omega), List.drop_eq_nil_of_le (by omega)]
      simp [bI]
theorem row_sameAs (hN : N < 1000) (hK : RowK K P r N) {V : VT} (hV : RowV V r N l o) {q M : Nat} {l2 : List Int32} {o2 : Int32} (hM : M < 1000) (hKq : RowK K P q M) (hq : RowV V q M l2 o2) : f_X4_sameAs K P r q V = some (bI (decide (l = l2)), V) := by
  have h1 := hV.2.1
  have h2 := hq.2.1
  rw [f_X4_sameAs, gI_k hK.1, hV.1, cV_k hKq.1 (row_size hKq hq)]
  by_cases h : l.length = l2.length
  · have := row_sameAs_loop (by omega) hK hV (by omega) hKq hq h FU 0 (FU_lt (by omega)) (by omega)
    rw [nI_0, List.drop_zero, List.drop_zero] at this
    rw [if_pos (by rw [h]), this]
  · rw [if_neg (fun z => h ((nI_eq (by omega) (by omega)).mp z)), rB_0, decide_eq_false (fun z => h (by rw [z]))]; rfl
theorem row_fill_loop (hN : N < 2 ^ 31) (hK : RowK K P r N) {k : Nat} (hk : k ≤ N) :
    ∀ (n i : Nat) (V : VT), i ≤ k → k - i < n → RowV V r N (List.replicate i 0) 0 → ∃ V2, f_X4_fillZeros_6 K P n r (nI k) (nI i) V = some (1, V2) ∧ RowV V2 r N (List.replicate k 0) 0 ∧ Fr r (r + 2) V V2 := by
  intro n
  induction n with
  | zero => intro i V _ h; omega
  | succ n ih =>
    intro i V hik hn hV
    rw [f_X4_fillZeros_6]
    by_cases h : i < k
    · rw [if_pos ((nI_ltI (by omega) (by omega)).mpr h), gI_k hK.1, hV.2.2.2.1, if_pos rfl]
      obtain ⟨V2, e2, h2, f2⟩ := row_add hN hK hV (by rw [List.length_replicate]; omega) 0
      rw [cV_k hK.1 e2, nI_1]
      rw [← List.replicate_succ'] at h2
      obtain ⟨V3, e3, h3, f3⟩ := ih (i + 1) V2 (by omega) (by omega) h2
      exact ⟨V3, e3, h3, f2.tr f3⟩
    · have : i = k := by omega
      subst this
      rw [if_neg (fun z => h ((nI_ltI (by omega) (by omega)).mp z)), f_X4_fillZeros_29, gI_k hK.1, hV.2.2.2.1, if_pos rfl, rB_1]
      exact ⟨V, rfl, hV, Fr.rf⟩
theorem row_fillZeros (hN : N < 1000) (hK : RowK K P r N) {k : Nat} (hk : k ≤ N) (V : VT) : ∃ V2, f_X4_fillZeros K P r (nI k) V = some (1, V2) ∧ RowV V2 r N (List.replicate k 0) 0 ∧ Fr r (r + 2) V V2 := by
  obtain ⟨V1, e1, h1, f1⟩ := row_clear hK V
  obtain ⟨V2, e2, h2, f2⟩ := row_fill_loop (by omega) hK hk FU 0 V1 (by omega) (FU_lt (by omega)) h1
  rw [nI_0] at e2
  refine ⟨V2, ?_, h2, f1.tr f2⟩
  rw [f_X4_fillZeros, cV_k hK.1 e1, e2]
theorem row_swap (hN : N < 2 ^ 31) (hK : RowK K P r N) {V : VT} (hV : RowV V r N l o) {i j : Nat} (hi : i < l.length) (hj : j < l.length) : ∃ V2, f_X4_swap K P r (nI i) (nI j) V = some ((), V2) ∧ RowV V2 r N ((l.set i (l.getD j (-6))).set j (l.getD i (-6))) o ∧ Fr r (r + 2) V V2 := by
  have hl := hV.2.1
  obtain ⟨e1, h1⟩ := row_set hN hK hV hi (l.getD j (-6))
  obtain ⟨e2, h2⟩ := row_set hN hK h1 (j := j) (by rw [List.length_set]; exact hj) (l.getD i (-6))
  refine ⟨_, ?_, h2, (Fr.set (by omega) (by omega)).tr (Fr.set (by omega) (by omega))⟩
  rw [f_X4_swap, cV_k hK.1 (row_atn hN hK hV (by omega)), cV_k hK.1 (row_atn hN hK hV (by omega)), cV_k hK.1 e1, cV_k hK.1 e2]
/-! Counting -/
/-- the next digits: i places are left to be looked at, from the last -/
def nd (base : Int32) : List Int32 → Nat → List Int32 × Bool
  | l, 0 => (l, false)
  | l, i + 1 => if l.getD i (-6) + 1 < base then (l.set i (l.getD i (-6) + 1), true) else nd base (l.set i 0) i
theorem nd_len (base : Int32) : ∀ (i : Nat) (l : List Int32), (nd base l i).1.length = l.length
  | 0, l => rfl
  | i + 1, l => by
    unfold nd
    split
    · rw [List.length_set]
    · rw [nd_len base i, List.length_set]
theorem nI_add_m1 (x : Int32) : x + (-1) = x - 1 := by rw [Int32.sub_eq_add_neg]
theorem nI_sub1 (i : Nat) : nI (i + 1) - 1 = nI i := nI_pred i
theorem nextDigits_loop (hN : N < 2 ^ 31) (hK : RowK K P r N) (base : Int32) :
    ∀ (n i : Nat) (V : VT) (l : List Int32), i < n → i ≤ l.length → RowV V r N l o → ∃ V2, f_X0_nextDigits_7 K P n r base (nI i - 1) V = some (bI (nd base l i).2, V2) ∧ RowV V2 r N (nd base l i).1 o ∧ Fr r (r + 2) V V2 := by
  intro n
  induction n with
  | zero => intro i V l h; omega
  | succ n ih =>
    intro i V l hn hi hV
    have hl := hV.2.1
    rw [f_X0_nextDigits_7]
    cases i with
    | zero => exact ⟨V, by rw [if_pos (by decide)]; rfl, hV, Fr.rf⟩
    | succ i =>
      rw [nI_sub1, if_neg (nI_pos (by omega)), cV_k hK.1 (row_atn hN hK hV (by omega))]
      unfold nd
      by_cases hb : l.getD i (-6) + 1 < base
      · obtain ⟨e1, h1⟩ := row_set hN hK hV (j := i) (by omega) (l.getD i (-6) + 1)
        rw [if_pos hb, if_pos hb, cV_k hK.1 (row_atn hN hK hV (by omega)), cV_k hK.1 e1, rB_1]
        exact ⟨_, rfl, h1, Fr.set (by omega) (by omega)⟩
      · obtain ⟨e1, h1⟩ := row_set hN hK hV (j := i) (by omega) 0
        rw [if_neg hb, if_neg hb, cV_k hK.1 e1, nI_add_m1]
        obtain ⟨V3, e3, h3, f3⟩ := ih i _ (l.set i 0) (by omega) (by rw [List.length_set]; omega) h1
        exact ⟨V3, e3, h3, (Fr.set (by omega) (by omega)).tr f3⟩
theorem nextDigits (hN : N < 1000) (hK : RowK K P r N) {V : VT} (hV : RowV V r N l o) (base : Int32) : ∃ V2, f_X0_nextDigits K P r base V = some (bI (nd base l l.length).2, V2) ∧ RowV V2 r N (nd base l l.length).1 o ∧ Fr r (r + 2) V V2 := by
  have hl := hV.2.1
  obtain ⟨V2, e2, h2, f2⟩ := nextDigits_loop (by omega) hK base FU l.length V l (FU_lt (by omega)) (Nat.le_refl _) hV
  refine ⟨V2, ?_, h2, f2⟩
  rw [f_X0_nextDigits, cV_k hK.1 (row_size hK hV), e2]
/-- a part turned round, from both ends -/
def rvs : Nat → List Int32 → Nat → Nat → List Int32
  | 0, l, _, _ => l
  | n + 1, l, a, b => if a + 1 < b then rvs n ((l.set a (l.getD (b - 1) (-6))).set (b - 1) (l.getD a (-6))) (a + 1) (b - 1) else l
theorem rvs_len : ∀ (n : Nat) (l : List Int32) (a b : Nat), (rvs n l a b).length = l.length
  | 0, l, _, _ => rfl
  | n + 1, l, a, b => by
    unfold rvs
    split
    · rw [rvs_len n]; simp
    · rfl
/-- right is nI b - 1 -/
theorem reverse_loop (hN : N < 2 ^ 31) (hK : RowK K P r N) :
    ∀ (n a b : Nat) (V : VT) (l : List Int32), b - a < n → b ≤ l.length → a < 2 ^ 31 - 1 → RowV V r N l o → ∃ V2, f_X0_reverseFrom_9 K P n r (nI a) (nI b - 1) V = some ((), V2) ∧ RowV V2 r N (rvs n l a b) o ∧ Fr r (r + 2) V V2 := by
  intro n
  induction n with
  | zero => intro a b V l h; omega
  | succ n ih =>
    intro a b V l hn hb ha hV
    have hl := hV.2.1
    rw [f_X0_reverseFrom_9]
    unfold rvs
    cases b with
    | zero => 
      refine ⟨V, ?_, by rw [if_neg (by omega)]; exact hV, Fr.rf⟩
      have : ¬ nI a < nI 0 - 1 := by
        rw [show nI 0 - 1 = (-1 : Int32) by decide]
        intro z
        have := Int32.lt_iff_toInt_lt.mp z
        rw [nI_toInt (by omega)] at this
        have e : (-1 : Int32).toInt = -1 := by decide
        omega
      rw [if_neg this]
    | succ b =>
      rw [nI_sub1]
      by_cases h : a < b
      · obtain ⟨V2, e2, h2, f2⟩ := row_swap hN hK hV (i := a) (j := b) (by omega) (by omega)
        obtain ⟨V3, e3, h3, f3⟩ := ih (a + 1) b V2 _ (by omega) (by simp; omega) (by omega) h2
        refine ⟨V3, ?_, ?_, f2.tr f3⟩
        · rw [if_pos ((nI_ltI (by omega) (by omega)).mpr h), cV_k hK.1 e2, nI_1, nI_add_m1, e3]
        · rw [if_pos (by omega)]; exact h3
      · refine ⟨V, ?_, by rw [if_neg (by omega)]; exact hV, Fr.rf⟩
        rw [if_neg (fun z => h ((nI_ltI (by omega) (by omega)).mp z))]
theorem rvs_fuel : ∀ (n : Nat) (l : List Int32) (a b : Nat), b - a < n → ∀ m : Nat, n ≤ m → rvs m l a b = rvs n l a b
  | 0, _, _, _, h, _, _ => by omega
  | n + 1, l, a, b, h, 0, hm => by omega
  | n + 1, l, a, b, h, m + 1, hm => by
    unfold rvs
    split
    · exact rvs_fuel n _ _ _ (by omega) m (by omega)
    · rfl
theorem reverseFrom (hN : N < 1000) (hK : RowK K P r N) {V : VT} (hV : RowV V r N l o) {a : Nat} (ha : a < 1000) : ∃ V2, f_X0_reverseFrom K P r (nI a) V = some ((), V2) ∧ RowV V2 r N (rvs 1000 l a l.length) o ∧ Fr r (r + 2) V V2 := by
  have hl := hV.2.1
  obtain ⟨V2, e2, h2, f2⟩ := reverse_loop (by omega) hK FU a l.length V l (FU_lt (by omega)) (Nat.le_refl _) (by omega) hV
  rw [rvs_fuel 1000 l a l.length (by omega) FU (by unfold FU; omega)] at h2
  refine ⟨V2, ?_, h2, f2⟩
  rw [f_X0_reverseFrom, cV_k hK.1 (row_size hK hV), e2]
/-- rise: places left of it (its value is i - 1) -/
def no7 (l : List Int32) : Nat → Nat
  | 0 => 0
  | i + 1 => if l.getD i (-6) < l.getD (i + 1) (-6) then i + 1 else no7 l i
/-- greater (its value is j - 1), down to rise -/
def no45 (l : List Int32) (rise : Nat) : Nat → Nat
  | 0 => 0
  | j + 1 => if rise < j then (if l.getD rise (-6) < l.getD j (-6) then j else no45 l rise j) else j
def nxO (l : List Int32) : List Int32 × Bool :=
  match no7 l (l.length - 1) with
  | 0 => (l, false)
  | rise + 1 =>
    let j := no45 l rise l.length
    (rvs 1000 ((l.set rise (l.getD j (-6))).set j (l.getD rise (-6))) (rise + 1) l.length, true)
end ROW2
