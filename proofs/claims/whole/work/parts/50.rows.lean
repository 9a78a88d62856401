/-! PURE PART, 1: how shallow functions run where all is as it should be -/
section EV
variable {β : Type} {K : KT} {P : PT} {V : VT} {a ci k : Nat}
theorem gI_k {F : Int32 → Option β} (h : K a = some (.inl ci)) : gI K V a ci k F = F (V a k) := by unfold gI; rw [if_pos h]
theorem gR_k {F : Nat → Option β} {b : Nat} (h : K a = some (.inl ci)) (hP : P a k = some b) : gR K P a ci k F = F b := by unfold gR; rw [if_pos h, hP]
theorem sI_k {x : Int32} {F : VT → Option β} (h : K a = some (.inl ci)) : sI K V a ci k x F = F (vset V a k x) := by unfold sI; rw [if_pos h]
theorem sB_k {x : Int32} {F : VT → Option β} (h : K a = some (.inl ci)) (hx : x = 0 ∨ x = 1) : sB K V a ci k x F = F (vset V a k x) := by unfold sB; rw [if_pos ⟨h, hx⟩]
theorem aI_k {t N : Nat} {i : Int32} {F : Int32 → Option β} (h : K a = some (.inr (t, N))) (h0 : 0 ≤ i) (h1 : i.toNatClampNeg < N) : aI K V t a i F = F (V a i.toNatClampNeg) := by unfold aI; rw [h]; exact if_pos ⟨rfl, h0, h1⟩
theorem aI_n {t N j : Nat} {F : Int32 → Option β} (h : K a = some (.inr (t, N))) (h1 : j < N) (hN : N < 2 ^ 31) : aI K V t a (nI j) F = F (V a j) := by
  have e := nI_clamp (n := j) (by omega)
  rw [aI_k h (nI_pos' (by omega)) (by rw [e]; exact h1), e]
theorem sA_k {N : Nat} {i x : Int32} {F : VT → Option β} (h : K a = some (.inr (0, N))) (h0 : 0 ≤ i) (h1 : i.toNatClampNeg < N) : sA K V a i x F = F (vset V a i.toNatClampNeg x) := by unfold sA; rw [h]; exact if_pos ⟨rfl, h0, h1⟩
theorem sA_n {N j : Nat} {x : Int32} {F : VT → Option β} (h : K a = some (.inr (0, N))) (h1 : j < N) (hN : N < 2 ^ 31) : sA K V a (nI j) x F = F (vset V a j x) := by
  have e := nI_clamp (n := j) (by omega)
  rw [sA_k h (nI_pos' (by omega)) (by rw [e]; exact h1), e]
theorem sZ_n {N j : Nat} {x : Int32} {F : VT → Option β} (h : K a = some (.inr (1, N))) (h1 : j < N) (hN : N < 2 ^ 31) (hx : x = 0 ∨ x = 1) : sZ K V a (nI j) x F = F (vset V a j x) := by
  have e := nI_clamp (n := j) (by omega)
  unfold sZ; rw [h]
  show (if _ then _ else _) = _
  rw [if_pos ⟨rfl, ⟨nI_pos' (by omega), by rw [e]; exact h1⟩, hx⟩, e]
theorem aN_k {t N : Nat} {F : Int32 → Option β} (h : K a = some (.inr (t, N))) (ht : t < 3) : aN K a F = F (nI N) := by unfold aN; rw [h]; exact if_pos ht
theorem aQ_n {N j b : Nat} {F : Nat → Option β} (h : K a = some (.inr (2, N))) (h1 : j < N) (hN : N < 2 ^ 31) (hP : P a j = some b) : aQ K P a (nI j) F = F b := by
  have e := nI_clamp (n := j) (by omega)
  unfold aQ; rw [h]
  show (if _ then _ else _) = _
  rw [if_pos ⟨rfl, nI_pos' (by omega), by rw [e]; exact h1⟩, e, hP]
theorem cS_k {α : Type} {x : Option (α × VT)} {F : α → VT → Option β} {r : α} {V2 : VT} (hx : x = some (r, V2)) : cS x F = F r V2 := by rw [hx]; rfl
theorem cV_k {α : Type} {x : Option (α × VT)} {F : α → VT → Option β} {r : α} {V2 : VT} (h : K a = some (.inl ci)) (hx : x = some (r, V2)) : cV K a ci x F = F r V2 := by unfold cV; rw [if_pos h]; exact cS_k hx
theorem dG_k {y : Int32} {F : Option β} (h : ¬ y = 0) : dG y F = F := by unfold dG; rw [if_neg h]
theorem rB_0 : rB 0 V = some (0, V) := rfl
theorem rB_1 : rB 1 V = some (1, V) := rfl
theorem rB_k {x : Int32} (h : x = 0 ∨ x = 1) : rB x V = some (x, V) := by unfold rB; rw [if_pos h]
end EV
theorem nI_m1 {a : Nat} (h : 0 < a) : nI a - 1 = nI (a - 1) := by
  obtain ⟨b, rfl⟩ : ∃ b, a = b + 1 := ⟨a - 1, by omega⟩
  exact nI_pred b
theorem nI_p1 (a : Nat) : nI a + 1 = nI (a + 1) := nI_1 a
theorem nI_mm {a : Nat} (h : 0 < a) : nI a + (-1) = nI (a - 1) := by
  obtain ⟨b, rfl⟩ : ∃ b, a = b + 1 := ⟨a - 1, by omega⟩
  exact pk_m1 b
theorem nI_nlt0 {a : Nat} (h : a < 2 ^ 31) : ¬ nI a < 0 := nI_pos h
theorem nI_lt_iff {a b : Nat} (ha : a < 2 ^ 31) (hb : b < 2 ^ 31) : nI a < nI b ↔ a < b := nI_ltI ha hb
theorem i32_split (i : Int32) : i < 0 ∨ ∃ j : Nat, j < 2 ^ 31 ∧ i = nI j := by
  by_cases h : i < 0
  · exact Or.inl h
  · exact Or.inr (nI_of h)
/-- what is the same but in [lo, hi) -/
def Fr (lo hi : Nat) (V V2 : VT) : Prop := ∀ a : Nat, (a < lo ∨ hi ≤ a) → V2 a = V a
theorem Fr.rf {lo hi : Nat} {V : VT} : Fr lo hi V V := fun _ _ => rfl
theorem Fr.tr {lo hi : Nat} {V V2 V3 : VT} (h1 : Fr lo hi V V2) (h2 : Fr lo hi V2 V3) : Fr lo hi V V3 := fun a ha => (h2 a ha).trans (h1 a ha)
theorem Fr.wd {lo hi lo2 hi2 : Nat} {V V2 : VT} (h : Fr lo hi V V2) (h1 : lo2 ≤ lo) (h2 : hi ≤ hi2) : Fr lo2 hi2 V V2 := fun a ha => h a (by omega)
theorem Fr.set {lo hi a k : Nat} {V : VT} {x : Int32} (h1 : lo ≤ a) (h2 : a < hi) : Fr lo hi V (vset V a k x) := fun b hb => vset_ne (by omega)
theorem vset_at {V : VT} {a k : Nat} {x : Int32} : vset V a k x a k = x := by simp [vset]
theorem vset_k {V : VT} {a k j : Nat} {x : Int32} (h : j ≠ k) : vset V a k x a j = V a j := by simp [vset, h]
/-! Row: l its numbers, o whether it is over -/
def RowV (V : VT) (r N : Nat) (l : List Int32) (o : Int32) : Prop := V r 1 = nI l.length ∧ l.length ≤ N ∧ (∀ (i : Nat) (x : Int32), l[i]? = some x → V (r + 1) i = x) ∧ V r 2 = o ∧ (o = 0 ∨ o = 1)
theorem RowV.keep {V V2 : VT} {r N : Nat} {l : List Int32} {o : Int32} (h : RowV V r N l o) (h1 : V2 r = V r) (h2 : V2 (r + 1) = V (r + 1)) : RowV V2 r N l o := by
  unfold RowV; rw [h1, h2]; exact h
theorem RowV.fr {V V2 : VT} {r N lo hi : Nat} {l : List Int32} {o : Int32} (h : RowV V r N l o) (hf : Fr lo hi V V2) (hr : r + 2 ≤ lo ∨ hi ≤ r) : RowV V2 r N l o := h.keep (hf r (by omega)) (hf (r + 1) (by omega))
/-- the number at a place, NONE elsewhere -/
def atI (l : List Int32) (i : Int32) : Int32 := if i < 0 then -6 else l.getD i.toNatClampNeg (-6)
theorem atI_n (l : List Int32) {j : Nat} (h : j < 2 ^ 31) : atI l (nI j) = l.getD j (-6) := by unfold atI; rw [if_neg (nI_pos h), nI_clamp h]
section ROW
variable {K : KT} {P : PT} {V : VT} {r N : Nat} {l : List Int32} {o : Int32}
theorem row_size (hK : RowK K P r N) (hV : RowV V r N l o) : f_X4_size K P r V = some (nI l.length, V) := by
  rw [f_X4_size, gI_k hK.1, hV.1]
theorem row_isOver (hK : RowK K P r N) (hV : RowV V r N l o) : f_X4_isOver K P r V = some (o, V) := by
  rw [f_X4_isOver, gI_k hK.1, hV.2.2.2.1, rB_k hV.2.2.2.2]
theorem row_at (hN : N < 2 ^ 31) (hK : RowK K P r N) (hV : RowV V r N l o) (i : Int32) : f_X4_at K P r i V = some (atI l i, V) := by
  obtain ⟨k1, k2, k3⟩ := hK
  obtain ⟨v1, v2, v3, -⟩ := hV
  rw [f_X4_at]
  rcases i32_split i with h | ⟨j, hj, rfl⟩
  · rw [if_pos h]; simp [atI, h]
  · rw [if_neg (nI_pos hj), gI_k k1, v1, atI_n l hj]
    by_cases h : j < l.length
    · rw [if_pos ((nI_ltI hj (by omega)).mpr h), gR_k k1 k2, aN_k k3 (by decide), if_pos ((nI_ltI hj hN).mpr (by omega)), gR_k k1 k2, aI_n k3 (by omega) hN]
      rw [v3 j l[j] (List.getElem?_eq_getElem h), List.getD_eq_getElem?_getD, List.getElem?_eq_getElem h]; rfl
    · rw [if_neg (fun z => h ((nI_ltI hj (by omega)).mp z)), List.getD_eq_getElem?_getD, List.getElem?_eq_none (by omega)]; rfl
theorem row_atn (hN : N < 2 ^ 31) (hK : RowK K P r N) (hV : RowV V r N l o) {j : Nat} (hj : j < 2 ^ 31) : f_X4_at K P r (nI j) V = some (l.getD j (-6), V) := by
  rw [row_at hN hK hV, atI_n l hj]
theorem row_set (hN : N < 2 ^ 31) (hK : RowK K P r N) (hV : RowV V r N l o) {j : Nat} (hj : j < l.length) (x : Int32) : f_X4_set K P r (nI j) x V = some ((), vset V (r + 1) j x) ∧ RowV (vset V (r + 1) j x) r N (l.set j x) o := by
  obtain ⟨k1, k2, k3⟩ := hK
  obtain ⟨v1, v2, v3, v4, v5⟩ := hV
  have hj2 : j < 2 ^ 31 := by omega
  constructor
  · rw [f_X4_set, if_neg (nI_pos hj2), gI_k k1, v1, if_pos ((nI_ltI hj2 (by omega)).mpr hj), gR_k k1 k2, aN_k k3 (by decide), if_pos ((nI_ltI hj2 hN).mpr (by omega)), gR_k k1 k2, sA_n k3 (by omega) hN]
  · refine ⟨by rw [vset_ne (by omega), v1, List.length_set], by rw [List.length_set]; exact v2, fun i y hi => ?_, by rw [vset_ne (by omega)]; exact v4, v5⟩
    by_cases hij : i = j
    · subst hij
      rw [List.getElem?_set_self hj] at hi
      cases hi
      exact vset_at
    · rw [List.getElem?_set_ne (fun z => hij z.symm)] at hi
      rw [vset_k hij]; exact v3 i y hi
theorem row_clear (hK : RowK K P r N) (V : VT) : ∃ V2, f_X4_clear K P r V = some ((), V2) ∧ RowV V2 r N [] 0 ∧ Fr r (r + 2) V V2 := by
  refine ⟨vset (vset V r 1 0) r 2 0, ?_, ⟨?_, Nat.zero_le _, fun i x h => by simp at h, vset_at, Or.inl rfl⟩, fun a ha => ?_⟩
  · rw [f_X4_clear, sI_k hK.1, sB_k hK.1 (Or.inl rfl)]
  · rw [vset_k (by decide), vset_at]; rfl
  · rw [vset_ne (by omega), vset_ne (by omega)]
theorem row_add (hN : N < 2 ^ 31) (hK : RowK K P r N) (hV : RowV V r N l o) (hl : l.length < N) (x : Int32) : ∃ V2, f_X4_add K P r x V = some ((), V2) ∧ RowV V2 r N (l ++ [x]) o ∧ Fr r (r + 2) V V2 := by
  obtain ⟨k1, k2, k3⟩ := hK
  obtain ⟨v1, v2, v3, v4, v5⟩ := hV
  have hl2 : l.length < 2 ^ 31 := by omega
  refine ⟨vset (vset V (r + 1) l.length x) r 1 (nI (l.length + 1)), ?_, ⟨?_, by simp; omega, fun i y hi => ?_, ?_, v5⟩, fun a ha => by rw [vset_ne (by omega), vset_ne (by omega)]⟩
  · rw [f_X4_add, gI_k k1, v1, if_neg (nI_pos hl2), gI_k k1, v1, gR_k k1 k2, aN_k k3 (by decide), if_pos ((nI_ltI hl2 hN).mpr hl), gR_k k1 k2, gI_k k1, v1, sA_n k3 hl hN, gI_k k1, vset_ne (by omega), v1, sI_k k1, nI_1]
  · rw [vset_at, List.length_append]; rfl
  · rw [vset_ne (by omega)]
    by_cases hil : i < l.length
    · rw [List.getElem?_append_left hil] at hi
      rw [vset_k (by omega)]; exact v3 i y hi
    · rw [List.getElem?_append_right (by omega)] at hi
      have hz : i - l.length < 1 := (List.getElem?_eq_some_iff.mp hi).1
      have hil2 : i = l.length := by omega
      subst hil2
      rw [Nat.sub_self] at hi
      cases hi
      exact vset_at
  · rw [vset_k (by decide), vset_ne (by omega)]; exact v4
theorem row_addOver (hN : N < 2 ^ 31) (hK : RowK K P r N) (hV : RowV V r N l o) (hl : l.length = N) (x : Int32) : ∃ V2, f_X4_add K P r x V = some ((), V2) ∧ RowV V2 r N l 1 ∧ Fr r (r + 2) V V2 := by
  obtain ⟨k1, k2, k3⟩ := hK
  obtain ⟨v1, v2, v3, v4, v5⟩ := hV
  have hl2 : l.length < 2 ^ 31 := by omega
  refine ⟨vset V r 2 1, ?_, ⟨?_, v2, fun i y hi => ?_, vset_at, Or.inr rfl⟩, fun a ha => by rw [vset_ne (by omega)]⟩
  · rw [f_X4_add, gI_k k1, v1, if_neg (nI_pos hl2), gI_k k1, v1, gR_k k1 k2, aN_k k3 (by decide), if_neg (fun z => absurd ((nI_ltI hl2 hN).mp z) (by omega)), sB_k k1 (Or.inr rfl)]
  · rw [vset_k (by decide)]; exact v1
  · rw [vset_ne (by omega)]; exact v3 i y hi
theorem row_dropLast (hN : N < 2 ^ 31) (hK : RowK K P r N) (hV : RowV V r N l o) (hl : 0 < l.length) : ∃ V2, f_X4_dropLast K P r V = some ((), V2) ∧ RowV V2 r N l.dropLast o ∧ Fr r (r + 2) V V2 := by
  obtain ⟨k1, k2, k3⟩ := hK
  obtain ⟨v1, v2, v3, v4, v5⟩ := hV
  have hl2 : l.length < 2 ^ 31 := by omega
  have hp : (0 : Int32) < nI l.length := by rw [← nI_0]; exact (nI_ltI (by decide) hl2).mpr hl
  refine ⟨vset V r 1 (nI (l.length - 1)), ?_, ⟨?_, by simp; omega, fun i y hi => ?_, ?_, v5⟩, fun a ha => by rw [vset_ne (by omega)]⟩
  · rw [f_X4_dropLast, gI_k k1, v1, if_pos hp, gI_k k1, v1, sI_k k1, nI_m1 hl]
  · rw [vset_at, List.length_dropLast]
  · rw [vset_ne (by omega)]
    refine v3 i y ?_
    rw [List.getElem?_dropLast] at hi
    split at hi
    · exact hi
    · cases hi
  · rw [vset_k (by decide)]; exact v4
end ROW
