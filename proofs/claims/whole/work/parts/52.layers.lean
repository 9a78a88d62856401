/-! PURE PART, 3: the next order; signs; a layer's own text; a layer -/
section ORD
variable {K : KT} {P : PT} {r N : Nat} {l : List Int32} {o : Int32}
theorem nextOrder_45 (hN : N < 1000) (hK : RowK K P r N) {V : VT} (hV : RowV V r N l o) {rise : Nat} (hr : rise + 1 < l.length) :
    ∀ (n j : Nat), j < n → rise + 1 < j → j ≤ l.length → ∃ V2, f_X0_nextOrder_45 K P n r (nI rise) (nI j - 1) V = some (1, V2) ∧ RowV V2 r N (rvs 1000 ((l.set rise (l.getD (no45 l rise j) (-6))).set (no45 l rise j) (l.getD rise (-6))) (rise + 1) l.length) o ∧ Fr r (r + 2) V V2 := by
  intro n
  induction n with
  | zero => intro j h; omega
  | succ n ih =>
    intro j hn hj hjl
    have hl := hV.2.1
    obtain ⟨j, rfl⟩ : ∃ k, j = k + 1 := ⟨j - 1, by omega⟩
    have h69 : ∃ V2, f_X0_nextOrder_69 K P r (nI rise) (nI j) V = some (1, V2) ∧ RowV V2 r N (rvs 1000 ((l.set rise (l.getD j (-6))).set j (l.getD rise (-6))) (rise + 1) l.length) o ∧ Fr r (r + 2) V V2 := by
      obtain ⟨V1, e1, h1, f1⟩ := row_swap (by omega) hK hV (i := rise) (j := j) (by omega) (by omega)
      obtain ⟨V2, e2, h2, f2⟩ := reverseFrom hN hK h1 (a := rise + 1) (by omega)
      simp only [List.length_set] at h2
      refine ⟨V2, ?_, h2, f1.tr f2⟩
      rw [f_X0_nextOrder_69, cV_k hK.1 e1, nI_1, cS_k e2, rB_1]
    rw [f_X0_nextOrder_45, nI_sub1]
    unfold no45
    by_cases h : rise < j
    · rw [if_pos ((nI_ltI (by omega) (by omega)).mpr h), if_pos h, cV_k hK.1 (row_atn (by omega) hK hV (by omega)), cV_k hK.1 (row_atn (by omega) hK hV (by omega))]
      by_cases h2 : l.getD rise (-6) < l.getD j (-6)
      · rw [if_pos h2, if_pos h2]; exact h69
      · rw [if_neg h2, if_neg h2, nI_add_m1]
        by_cases h3 : rise + 1 < j
        · exact ih j (by omega) h3 (by omega)
        · -- one place is left: greater is rise itself
          have hj2 : j = rise + 1 := by omega
          subst hj2
          cases n with
          | zero => omega
          | succ n =>
            rw [f_X0_nextOrder_45, nI_sub1, if_neg (fun z => absurd ((nI_ltI (by omega) (by omega)).mp z) (by omega))]
            have : no45 l rise (rise + 1) = rise := by unfold no45; rw [if_neg (by omega)]
            rw [this]
            obtain ⟨V1, e1, h1, f1⟩ := row_swap (by omega) hK hV (i := rise) (j := rise) (by omega) (by omega)
            obtain ⟨V2, e2, h2', f2⟩ := reverseFrom hN hK h1 (a := rise + 1) (by omega)
            simp only [List.length_set] at h2'
            refine ⟨V2, ?_, h2', f1.tr f2⟩
            rw [f_X0_nextOrder_69, cV_k hK.1 e1, nI_1, cS_k e2, rB_1]
    · omega
theorem nextOrder_7 (hN : N < 1000) (hK : RowK K P r N) {V : VT} (hV : RowV V r N l o) (hl1 : 0 < l.length) :
    ∀ (n i : Nat), i < n → i + 1 ≤ l.length → ∃ V2, f_X0_nextOrder_7 K P n r (nI i - 1) V = some (bI (match no7 l i with | 0 => (l, false) | rise + 1 => (rvs 1000 ((l.set rise (l.getD (no45 l rise l.length) (-6))).set (no45 l rise l.length) (l.getD rise (-6))) (rise + 1) l.length, true)).2, V2) ∧ RowV V2 r N (match no7 l i with | 0 => (l, false) | rise + 1 => (rvs 1000 ((l.set rise (l.getD (no45 l rise l.length) (-6))).set (no45 l rise l.length) (l.getD rise (-6))) (rise + 1) l.length, true)).1 o ∧ Fr r (r + 2) V V2 := by
  intro n
  induction n with
  | zero => intro i h; omega
  | succ n ih =>
    intro i hn hi
    have hl := hV.2.1
    cases i with
    | zero =>
      refine ⟨V, ?_, hV, Fr.rf⟩
      rw [f_X0_nextOrder_7, if_pos (by decide), f_X0_nextOrder_32, if_pos (by decide)]; rfl
    | succ i =>
      rw [f_X0_nextOrder_7, nI_sub1, if_neg (nI_pos (by omega)), cV_k hK.1 (row_atn (by omega) hK hV (by omega)), nI_1, cV_k hK.1 (row_atn (by omega) hK hV (by omega))]
      unfold no7
      by_cases h : l.getD i (-6) < l.getD (i + 1) (-6)
      · rw [if_pos h, if_pos h, f_X0_nextOrder_32, if_neg (nI_pos (by omega)), cV_k hK.1 (row_size hK hV)]
        by_cases h2 : i + 1 < l.length
        · exact nextOrder_45 hN hK hV h2 FU l.length (FU_lt (by omega)) (by omega) (Nat.le_refl _)
        · omega
      · rw [if_neg h, if_neg h, nI_add_m1]
        exact ih i (by omega) (by omega)
theorem nextOrder (hN : N < 1000) (hK : RowK K P r N) {V : VT} (hV : RowV V r N l o) (hl1 : 0 < l.length) : ∃ V2, f_X0_nextOrder K P r V = some (bI (nxO l).2, V2) ∧ RowV V2 r N (nxO l).1 o ∧ Fr r (r + 2) V V2 := by
  have hl := hV.2.1
  obtain ⟨V2, e2, h2, f2⟩ := nextOrder_7 hN hK hV hl1 FU (l.length - 1) (FU_lt (by omega)) (by omega)
  refine ⟨V2, ?_, h2, f2⟩
  rw [f_X0_nextOrder, cV_k hK.1 (row_size hK hV)]
  have : nI l.length - 2 = nI (l.length - 1) - 1 := by
    obtain ⟨k, hk⟩ : ∃ k, l.length = k + 1 := ⟨l.length - 1, by omega⟩
    rw [hk, nI_succ, Int32.sub_eq_add_neg, Int32.add_assoc, show (1 : Int32) + -2 = -1 by decide, nI_add_m1]; rfl
  rw [this, e2]; rfl
end ORD
/-! signs -/
def vd2 (s : Int32) : Int32 := if s < 97 then -1 else if 102 < s then -1 else s - 97 + 10
def vdg (s : Int32) : Int32 := if s < 48 then vd2 s else if 57 < s then vd2 s else s - 48
def isSg (s : Int32) : Bool := if s < 33 then false else if 126 < s then false else true
def hmB (w : Int32) : Bool := w == 1 || w == 3
def fhI (w : Int32) : Nat := if hmB w = true then 3 else 2
def cmB (s : Int32) : Bool := isSg s && decide (vdg s < 0)
def cwB (w m : Int32) : Bool := if w = 50 then !decide (m = 45) else if w < 48 then false else if 51 < w then false else true
def nsB (l : List Int32) (j : Nat) : Bool := cmB (l.getD j (-6)) && (!decide (l.getD j (-6) = 45) && !decide (l.getD j (-6) ∈ l.take j))
section SG
variable {K : KT} {P : PT}
theorem q_vdg (s : Int32) (V : VT) : f_X1_valueOfDigit K P s V = some (vdg s, V) := by
  unfold f_X1_valueOfDigit f_X1_valueOfDigit_17 vdg vd2
  split
  · split
    · rfl
    · split <;> rfl
  · split
    · split
      · rfl
      · split <;> rfl
    · rfl
theorem q_isSg (s : Int32) (V : VT) : f_X6_isSign K P s V = some (bI (isSg s), V) := by
  unfold f_X6_isSign isSg
  split
  · rfl
  · split <;> rfl
theorem q_hasMask (w : Int32) (V : VT) : f_X1_hasMask K P w V = some (bI (hmB w), V) := by
  unfold f_X1_hasMask f_X1_hasMask_10 hmB
  by_cases h1 : w = 1
  · rw [if_pos h1]; simp [h1, bI]; rfl
  · rw [if_neg h1]
    by_cases h3 : w = 3
    · rw [if_pos h3]; simp [h3, bI]; rfl
    · rw [if_neg h3]; simp [h1, h3, bI]; rfl
theorem q_firstHeld (w : Int32) (V : VT) : f_X2_firstHeld K P w V = some (nI (fhI w), V) := by
  unfold f_X2_firstHeld fhI
  rw [cS_k (q_hasMask w V)]
  cases hmB w <;> rfl
theorem q_canBeMark (s : Int32) (V : VT) : f_X2_canBeMark K P s V = some (bI (cmB s), V) := by
  unfold f_X2_canBeMark cmB
  rw [cS_k (q_isSg s V)]
  cases isSg s with
  | false => rfl
  | true =>
    rw [if_neg (by decide), cS_k (q_vdg s V)]
    by_cases h : vdg s < 0
    · rw [if_pos h]; simp [h, bI]; rfl
    · rw [if_neg h]; simp [h, bI]; rfl
theorem q_canBeWay (w m : Int32) (V : VT) : f_X2_canBeWay K P w m V = some (bI (cwB w m), V) := by
  unfold f_X2_canBeWay cwB
  split
  · by_cases h : m = 45
    · rw [if_pos h]; simp [h, bI]; rfl
    · rw [if_neg h]; simp [h, bI]; rfl
  · split
    · rfl
    · split <;> rfl
variable {r N : Nat} {l : List Int32} {o : Int32} {V : VT}
theorem q_isNew (hN : N < 1000) (hK : RowK K P r N) (hV : RowV V r N l o) {j : Nat} (hj : j < 2 ^ 31) : f_X2_isNewSign K P r (nI j) V = some (bI (nsB l j), V) := by
  unfold f_X2_isNewSign nsB
  rw [cV_k hK.1 (row_atn (by omega) hK hV hj), cS_k (q_canBeMark _ V)]
  cases cmB (l.getD j (-6)) with
  | false => rfl
  | true =>
    rw [if_neg (by decide)]
    by_cases h : l.getD j (-6) = 45
    · rw [if_pos h, decide_eq_true h]; rfl
    · rw [if_neg h, cV_k hK.1 (row_hasAhead hN hK hV _ hj), decide_eq_false h]
      cases decide (l.getD j (-6) ∈ l.take j) <;> rfl
/-- the first place from i on that is no new sign, or is at the end -/
def flt1 (l : List Int32) (e : Nat) : Nat → Nat → Int32
  | 0, _ => -6
  | n + 1, i => if i < l.length then (if i < e then (if nsB l i = true then flt1 l e n (i + 1) else nI i) else nI i) else -6
theorem q_fault_79 (hN : N < 1000) (hK : RowK K P r N) (hV : RowV V r N l o) {e : Nat} (he : e < 1000) :
    ∀ (n i : Nat), l.length + 1 - i < n → i < 10000 → f_X2_faultIn_79 K P n r (nI e) (nI i) V = some (flt1 l e n i, V) := by
  intro n
  induction n with
  | zero => intro i h; omega
  | succ n ih =>
    intro i hn hi
    have hl := hV.2.1
    rw [f_X2_faultIn_79, cV_k hK.1 (row_size hK hV)]
    unfold flt1
    by_cases h : i < l.length
    · rw [if_pos ((nI_ltI (by omega) (by omega)).mpr h), if_pos h]
      by_cases h2 : i < e
      · rw [if_pos ((nI_ltI (by omega) (by omega)).mpr h2), if_pos h2, cS_k (q_isNew hN hK hV (by omega))]
        cases nsB l i with
        | false => rfl
        | true => rw [if_neg (by decide), if_pos rfl, nI_1]; exact ih (i + 1) (by omega) (by omega)
      · rw [if_neg (fun z => h2 ((nI_ltI (by omega) (by omega)).mp z)), if_neg h2]
    · rw [if_neg (fun z => h ((nI_ltI (by omega) (by omega)).mp z)), if_neg h]
theorem flt1_fuel (l : List Int32) (e : Nat) : ∀ (n i : Nat), l.length + 1 - i < n → ∀ m, n ≤ m → flt1 l e m i = flt1 l e n i
  | 0, i, h, _, _ => by omega
  | n + 1, i, h, 0, hm => by omega
  | n + 1, i, h, m + 1, hm => by
    unfold flt1
    split
    · split
      · split
        · exact flt1_fuel l e n (i + 1) (by omega) m (by omega)
        · rfl
      · rfl
    · rfl
/-- THE FAULT, as the class looks for it -/
def fltC (l : List Int32) : Int32 :=
  if cmB (l.getD 0 (-6)) = true then
    if cwB (l.getD 1 (-6)) (l.getD 0 (-6)) = true then
      if hmB (l.getD 1 (-6) - 48) = true ∧ nsB l 2 = false then 2
      else flt1 l (fhI (l.getD 1 (-6) - 48) + if l.getD 1 (-6) - 48 = 2 then 0 else 6) 1000 (fhI (l.getD 1 (-6) - 48))
    else 1
  else 0
theorem q_fault_57 (hN : N < 900) (hK : RowK K P r N) (hV : RowV V r N l o) (w : Int32) : f_X2_faultIn_57 K P r w V = some (flt1 l (fhI w + if w = 2 then 0 else 6) 1000 (fhI w), V) := by
  have hl := hV.2.1
  have hf : fhI w ≤ 3 := by unfold fhI; split <;> omega
  rw [f_X2_faultIn_57, cS_k (q_firstHeld w V)]
  by_cases h : w = 2
  · rw [if_pos h, if_pos h, f_X2_faultIn_74, show (0 : Int32) = nI 0 from nI_0.symm, nI_add, q_fault_79 (by omega) hK hV (by omega) FU _ (FU_lt (by omega)) (by omega), flt1_fuel _ _ 1000 _ (by omega) FU (by unfold FU; omega)]
  · rw [if_neg h, if_neg h, f_X2_faultIn_74, show (6 : Int32) = nI 6 from rfl, nI_add, q_fault_79 (by omega) hK hV (by omega) FU _ (FU_lt (by omega)) (by omega), flt1_fuel _ _ 1000 _ (by omega) FU (by unfold FU; omega)]
theorem q_fault (hN : N < 900) (hK : RowK K P r N) (hV : RowV V r N l o) : f_X2_faultIn K P r V = some (fltC l, V) := by
  have a0 := row_atn (by omega) hK hV (j := 0) (by omega)
  have a1 := row_atn (by omega) hK hV (j := 1) (by omega)
  rw [nI_0] at a0
  rw [show nI 1 = 1 from rfl] at a1
  unfold f_X2_faultIn fltC
  rw [cV_k hK.1 a0, cS_k (q_canBeMark _ V)]
  cases cmB (l.getD 0 (-6)) with
  | false => rfl
  | true =>
    rw [if_neg (by decide), cV_k hK.1 a1, cV_k hK.1 a0, cS_k (q_canBeWay _ _ V), if_pos rfl]
    cases cwB (l.getD 1 (-6)) (l.getD 0 (-6)) with
    | false => rfl
    | true =>
      rw [if_neg (by decide), cV_k hK.1 a1, cS_k (q_hasMask _ V), if_pos rfl]
      cases hmB (l.getD 1 (-6) - 48) with
      | false => rw [show bI false = 0 from rfl, if_pos rfl, q_fault_57 hN hK hV]; simp
      | true =>
        have n2 := q_isNew (by omega) hK hV (j := 2) (by omega)
        rw [show nI 2 = 2 from rfl] at n2
        rw [if_neg (by decide), cS_k n2]
        cases nsB l 2 with
        | false => rfl
        | true => rw [if_neg (by decide), q_fault_57 hN hK hV]; simp
end SG
