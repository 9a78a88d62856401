/-! PURE PART, 28: how it all begins -/
section ST0
variable {B : Nat}
theorem k0_lo {b : Nat} (h : b ≤ B + 87) (hb : B < b) : K0 B b = iK_X6 (kset (fun _ => none) B (.inl 4)) B b := by
  unfold K0
  rw [iK_X7_lt (by omega)]
  show (if b = B + 88 then _ else _) = _
  rw [if_neg (by omega)]
theorem p0_lo {b : Nat} (h : b ≤ B + 87) : P0 B b = iP_X6 (prow (fun _ _ => none) B (fun _ => none)) B b := by
  unfold P0
  rw [iP_X7_lt (by omega)]
  show (if b = B + 88 then _ else _) = _
  rw [if_neg (by omega)]
theorem v0_lo {b : Nat} (h : b ≤ B + 87) : V0 B b = iV_X6 (vrow (fun _ _ => 0) B (fun _ => 0)) B b := by
  unfold V0
  rw [iV_X7_lt (by omega)]
  show (if b = B + 88 then _ else _) = _
  rw [if_neg (by omega)]
theorem x1_lay {K : KT} {P : PT} {a : Nat} (h : K a = some (.inl 0)) : LayK (iK_X1 K a) (iP_X1 P a) a := by
  refine ⟨?_, ?_, ?_, ?_, ?_⟩ <;> simp [iK_X1, iP_X1, iK_X4, iP_X4, kset, pset, prow, h, Nat.add_assoc]
theorem LayK.cg {K K2 : KT} {P P2 : PT} {a : Nat} (h : LayK K P a) (hk : ∀ b, a ≤ b → b < a + 3 → K2 b = K b) (hp : ∀ b, a ≤ b → b < a + 3 → P2 b = P b) : LayK K2 P2 a := by
  obtain ⟨h1, h2, h3, h4, h5⟩ := h
  exact ⟨by rw [hk a (by omega) (by omega)]; exact h1, by rw [hp a (by omega) (by omega)]; exact h2, by rw [hk (a + 1) (by omega) (by omega)]; exact h3, by rw [hp (a + 1) (by omega) (by omega)]; exact h4, by rw [hk (a + 1 + 1) (by omega) (by omega)]; exact h5⟩
theorem RowK.cg {K K2 : KT} {P P2 : PT} {a N : Nat} (h : RowK K P a N) (hk : ∀ b, a ≤ b → b < a + 2 → K2 b = K b) (hp : P2 a = P a) : RowK K2 P2 a N := by
  obtain ⟨h3, h4, h5⟩ := h
  exact ⟨by rw [hk a (by omega) (by omega)]; exact h3, by rw [hp]; exact h4, by rw [hk (a + 1) (by omega) (by omega)]; exact h5⟩
theorem x5_std {K : KT} {P : PT} {a : Nat} (h : K a = some (.inl 3)) : StdK (iK_X5 K a) (iP_X5 P a) a := by
  refine ⟨?_, ?_, ?_, ⟨?_, ?_, ?_, ?_⟩, ⟨?_, ?_, ?_, ?_⟩, fun i hi => ?_⟩
  · simp [iK_X5, iK_X1, iK_X4, kset, h, Nat.add_assoc]
  · simp [iP_X5, iP_X1, iP_X4, pset, prow, Nat.add_assoc]
  · simp [iK_X5, iK_X1, iK_X4, kset, h, Nat.add_assoc]
  · simp [iP_X5, iP_X1, iP_X4, pset, prow, Nat.add_assoc]
  · simp [iK_X5, iK_X1, iK_X4, kset, h, Nat.add_assoc]
  · simp [iP_X5, iP_X1, iP_X4, pset, prow, Nat.add_assoc]
  · simp [iK_X5, iK_X1, iK_X4, kset, h, Nat.add_assoc]
  · simp [iP_X5, iP_X1, iP_X4, pset, prow, Nat.add_assoc]
  · simp [iK_X5, iK_X1, iK_X4, kset, h, Nat.add_assoc]
  · simp [iP_X5, iP_X1, iP_X4, pset, prow, Nat.add_assoc]
  · simp [iK_X5, iK_X1, iK_X4, kset, h, Nat.add_assoc]
  · have : i = 0 ∨ i = 1 ∨ i = 2 ∨ i = 3 ∨ i = 4 := by omega
    rcases this with rfl | rfl | rfl | rfl | rfl
    all_goals refine ⟨?_, ?_, ?_, ?_, ?_, ?_⟩
    all_goals simp [iK_X5, iK_X1, iK_X4, kset, iP_X5, iP_X1, iP_X4, pset, prow, Nat.add_assoc]
theorem StdK.cg {K K2 : KT} {P P2 : PT} {a : Nat} (h : StdK K P a) (hk : ∀ b, a ≤ b → b < a + 24 → K2 b = K b) (hp : ∀ b, a ≤ b → b < a + 24 → P2 b = P b) : StdK K2 P2 a := by
  obtain ⟨h1, h2, h3, ⟨h4, h5⟩, ⟨h6, h7⟩, h8⟩ := h
  have ea := hp a (by omega) (by omega)
  refine ⟨by rw [hk a (by omega) (by omega)]; exact h1, by rw [ea]; exact h2, by rw [hk (a + 1) (by omega) (by omega)]; exact h3, ⟨by rw [ea]; exact h4, h5.cg (fun b h1 h2 => hk b (by omega) (by omega)) (hp _ (by omega) (by omega))⟩, ⟨by rw [ea]; exact h6, h7.cg (fun b h1 h2 => hk b (by omega) (by omega)) (hp _ (by omega) (by omega))⟩, fun i hi => ?_⟩
  obtain ⟨l1, l2⟩ := h8 i hi
  exact ⟨by rw [hp (a + 1) (by omega) (by omega)]; exact l1, l2.cg (fun b h1 h2 => hk b (by omega) (by omega)) (fun b h1 h2 => hp b (by omega) (by omega))⟩
theorem x3_pas {K : KT} {P : PT} {a : Nat} (h : K a = some (.inl 1)) : PasK (iK_X3 K a) (iP_X3 P a) a := by
  refine ⟨?_, ?_, ?_, ⟨?_, ?_, ?_⟩, ⟨?_, ?_, ?_⟩⟩
  all_goals simp [iK_X3, iP_X3, iK_X4, iP_X4, kset, pset, prow, h, Nat.add_assoc]
theorem PasK.cg {K K2 : KT} {P P2 : PT} {a : Nat} (h : PasK K P a) (hk : ∀ b, a ≤ b → b < a + 5 → K2 b = K b) (hp : ∀ b, a ≤ b → b < a + 5 → P2 b = P b) : PasK K2 P2 a := by
  obtain ⟨h1, h2, h3, h4, h5⟩ := h
  have ea := hp a (by omega) (by omega)
  exact ⟨by rw [hk a (by omega) (by omega)]; exact h1, by rw [ea]; exact h2, by rw [ea]; exact h3, h4.cg (fun b h1 h2 => hk b (by omega) (by omega)) (hp _ (by omega) (by omega)), h5.cg (fun b h1 h2 => hk b (by omega) (by omega)) (hp _ (by omega) (by omega))⟩
theorem x7_mo {K : KT} {P : PT} {a : Nat} (h : K a = some (.inl 5)) : MoK (iK_X7 K a) (iP_X7 P a) a := by
  refine ⟨?_, fun q hq => ?_⟩
  · rw [iK_X7_lt (Nat.le_refl _)]; exact h
  · simp only [moTab, List.mem_cons, List.not_mem_nil, or_false] at hq
    rcases hq with rfl | rfl | rfl | rfl | rfl | rfl | rfl | rfl | rfl | rfl | rfl | rfl | rfl | rfl | rfl | rfl
    all_goals constructor <;> simp [iK_X7, iP_X7, kset, pset]
end ST0
/-! the object, part by part -/
def kq1 (B : Nat) : KT := kset (fun _ => none) B (.inl 4)
def pq1 (B : Nat) : PT := prow (fun _ _ => none) B (fun _ => none)
def vq1 (B : Nat) : VT := vrow (fun _ _ => 0) B (fun _ => 0)
def kq2 (B : Nat) : KT := iK_X4 (kset (kq1 B) (B + 1) (.inl 2)) (B + 1) 60
def pq2 (B : Nat) : PT := pset (iP_X4 (prow (pq1 B) (B + 1) (fun _ => none)) (B + 1)) B 0 (some (B + 1))
def vq2 (B : Nat) : VT := iV_X4 (vrow (vq1 B) (B + 1) (fun _ => 0)) (B + 1)
def kq3 (B : Nat) : KT := iK_X5 (kset (kq2 B) (B + 3) (.inl 3)) (B + 3)
def pq3 (B : Nat) : PT := pset (iP_X5 (prow (pq2 B) (B + 3) (fun _ => none)) (B + 3)) B 1 (some (B + 3))
def vq3 (B : Nat) : VT := iV_X5 (vrow (vq2 B) (B + 3) (fun _ => 0)) (B + 3)
def kq4 (B : Nat) : KT := iK_X5 (kset (kq3 B) (B + 27) (.inl 3)) (B + 27)
def pq4 (B : Nat) : PT := pset (iP_X5 (prow (pq3 B) (B + 27) (fun _ => none)) (B + 27)) B 2 (some (B + 27))
def vq4 (B : Nat) : VT := iV_X5 (vrow (vq3 B) (B + 27) (fun _ => 0)) (B + 27)
def kq5 (B : Nat) : KT := iK_X5 (kset (kq4 B) (B + 51) (.inl 3)) (B + 51)
def pq5 (B : Nat) : PT := pset (iP_X5 (prow (pq4 B) (B + 51) (fun _ => none)) (B + 51)) B 3 (some (B + 51))
def vq5 (B : Nat) : VT := iV_X5 (vrow (vq4 B) (B + 51) (fun _ => 0)) (B + 51)
def kq6 (B : Nat) : KT := iK_X3 (kset (kq5 B) (B + 75) (.inl 1)) (B + 75)
def pq6 (B : Nat) : PT := pset (iP_X3 (prow (pq5 B) (B + 75) (fun _ => none)) (B + 75)) B 4 (some (B + 75))
def vq6 (B : Nat) : VT := iV_X3 (vrow (vq5 B) (B + 75) (fun _ => 0)) (B + 75)
def kq7 (B : Nat) : KT := iK_X4 (kset (kq6 B) (B + 80) (.inl 2)) (B + 80) 12
def pq7 (B : Nat) : PT := pset (iP_X4 (prow (pq6 B) (B + 80) (fun _ => none)) (B + 80)) B 5 (some (B + 80))
def vq7 (B : Nat) : VT := iV_X4 (vrow (vq6 B) (B + 80) (fun _ => 0)) (B + 80)
def kq8 (B : Nat) : KT := iK_X4 (kset (kq7 B) (B + 82) (.inl 2)) (B + 82) 6
def pq8 (B : Nat) : PT := pset (iP_X4 (prow (pq7 B) (B + 82) (fun _ => none)) (B + 82)) B 6 (some (B + 82))
def vq8 (B : Nat) : VT := iV_X4 (vrow (vq7 B) (B + 82) (fun _ => 0)) (B + 82)
def kq9 (B : Nat) : KT := iK_X4 (kset (kq8 B) (B + 84) (.inl 2)) (B + 84) 5
def pq9 (B : Nat) : PT := pset (iP_X4 (prow (pq8 B) (B + 84) (fun _ => none)) (B + 84)) B 7 (some (B + 84))
def vq9 (B : Nat) : VT := iV_X4 (vrow (vq8 B) (B + 84) (fun _ => 0)) (B + 84)
def kq10 (B : Nat) : KT := iK_X4 (kset (kq9 B) (B + 86) (.inl 2)) (B + 86) 5
def pq10 (B : Nat) : PT := pset (iP_X4 (prow (pq9 B) (B + 86) (fun _ => none)) (B + 86)) B 8 (some (B + 86))
def vq10 (B : Nat) : VT := iV_X4 (vrow (vq9 B) (B + 86) (fun _ => 0)) (B + 86)
theorem kq_end (B : Nat) : iK_X6 (kset (fun _ => none) B (.inl 4)) B = kq10 B := rfl
theorem pq_end (B : Nat) : iP_X6 (prow (fun _ _ => none) B (fun _ => none)) B = pq10 B := rfl
theorem vq_end (B : Nat) : iV_X6 (vrow (fun _ _ => 0) B (fun _ => 0)) B = vq10 B := rfl
theorem x4_lt {K : KT} {a b N : Nat} (h : b ≤ a) : iK_X4 K a N b = K b := by
  show (if b = a + 1 then _ else _) = _
  rw [if_neg (by omega)]
theorem p4_lt {P : PT} {a b : Nat} (h : b < a) : iP_X4 P a b = P b := by
  funext j
  show (if b = a ∧ j = 0 then _ else _) = _
  rw [if_neg (by omega)]
theorem v4_lt {V : VT} {a b : Nat} (h : b < a) : iV_X4 V a b = V b := by
  show (if b = a + 1 then _ else _) = _
  rw [if_neg (by omega), vset_ne (by omega), vset_ne (by omega)]
theorem pset_ne2 {P : PT} {a b k : Nat} {x : Option Nat} (h : b ≠ a) : pset P a k x b = P b := by
  funext j
  show (if b = a ∧ j = k then _ else _) = _
  rw [if_neg (fun z => h z.1)]
theorem pset_k2 {P : PT} {a j k : Nat} {x : Option Nat} (h : j ≠ k) : pset P a k x a j = P a j := by
  show (if a = a ∧ j = k then _ else _) = _
  rw [if_neg (fun z => h z.2)]
theorem pset_at2 {P : PT} {a k : Nat} {x : Option Nat} : pset P a k x a k = x := by
  show (if a = a ∧ k = k then _ else _) = _
  rw [if_pos ⟨rfl, rfl⟩]
theorem prow_ne2 {P : PT} {a b : Nat} {f : Nat → Option Nat} (h : b ≠ a) : prow P a f b = P b := by
  show (if b = a then _ else _) = _
  rw [if_neg h]
theorem vrow_ne2 {V : VT} {a b : Nat} {f : Nat → Int32} (h : b ≠ a) : vrow V a f b = V b := by
  show (if b = a then _ else _) = _
  rw [if_neg h]
theorem kset_ne2 {K : KT} {a b : Nat} {d : Nat ⊕ (Nat × Nat)} (h : b ≠ a) : kset K a d b = K b := by
  show (if b = a then _ else _) = _
  rw [if_neg h]
theorem kset_at2 {K : KT} {a : Nat} {d : Nat ⊕ (Nat × Nat)} : kset K a d a = some d := by
  show (if a = a then _ else _) = _
  rw [if_pos rfl]
theorem ks2 {B b : Nat} (h : b < B + 1) : kq2 B b = kq1 B b := by rw [kq2, x4_lt (by omega), kset_ne2 (by omega)]
theorem ps2 {B b : Nat} (h : b < B + 1) (hb : b ≠ B) : pq2 B b = pq1 B b := by rw [pq2, pset_ne2 hb, p4_lt (by omega), prow_ne2 (by omega)]
theorem pb2 {B j : Nat} (h : j ≠ 0) : pq2 B B j = pq1 B B j := by rw [pq2, pset_k2 h, p4_lt (by omega), prow_ne2 (by omega)]
theorem pc2 {B : Nat} : pq2 B B 0 = some (B + 1) := by rw [pq2, pset_at2]
theorem vs2 {B b : Nat} (h : b < B + 1) : vq2 B b = vq1 B b := by rw [vq2, v4_lt (by omega), vrow_ne2 (by omega)]
theorem ks3 {B b : Nat} (h : b < B + 3) : kq3 B b = kq2 B b := by rw [kq3, iK_X5_lt (by omega), kset_ne2 (by omega)]
theorem ps3 {B b : Nat} (h : b < B + 3) (hb : b ≠ B) : pq3 B b = pq2 B b := by rw [pq3, pset_ne2 hb, iP_X5_lt (by omega), prow_ne2 (by omega)]
theorem pb3 {B j : Nat} (h : j ≠ 1) : pq3 B B j = pq2 B B j := by rw [pq3, pset_k2 h, iP_X5_lt (by omega), prow_ne2 (by omega)]
theorem pc3 {B : Nat} : pq3 B B 1 = some (B + 3) := by rw [pq3, pset_at2]
theorem vs3 {B b : Nat} (h : b < B + 3) : vq3 B b = vq2 B b := by rw [vq3, iV_X5_lt (by omega), vrow_ne2 (by omega)]
theorem ks4 {B b : Nat} (h : b < B + 27) : kq4 B b = kq3 B b := by rw [kq4, iK_X5_lt (by omega), kset_ne2 (by omega)]
theorem ps4 {B b : Nat} (h : b < B + 27) (hb : b ≠ B) : pq4 B b = pq3 B b := by rw [pq4, pset_ne2 hb, iP_X5_lt (by omega), prow_ne2 (by omega)]
theorem pb4 {B j : Nat} (h : j ≠ 2) : pq4 B B j = pq3 B B j := by rw [pq4, pset_k2 h, iP_X5_lt (by omega), prow_ne2 (by omega)]
theorem pc4 {B : Nat} : pq4 B B 2 = some (B + 27) := by rw [pq4, pset_at2]
theorem vs4 {B b : Nat} (h : b < B + 27) : vq4 B b = vq3 B b := by rw [vq4, iV_X5_lt (by omega), vrow_ne2 (by omega)]
theorem ks5 {B b : Nat} (h : b < B + 51) : kq5 B b = kq4 B b := by rw [kq5, iK_X5_lt (by omega), kset_ne2 (by omega)]
theorem ps5 {B b : Nat} (h : b < B + 51) (hb : b ≠ B) : pq5 B b = pq4 B b := by rw [pq5, pset_ne2 hb, iP_X5_lt (by omega), prow_ne2 (by omega)]
theorem pb5 {B j : Nat} (h : j ≠ 3) : pq5 B B j = pq4 B B j := by rw [pq5, pset_k2 h, iP_X5_lt (by omega), prow_ne2 (by omega)]
theorem pc5 {B : Nat} : pq5 B B 3 = some (B + 51) := by rw [pq5, pset_at2]
theorem vs5 {B b : Nat} (h : b < B + 51) : vq5 B b = vq4 B b := by rw [vq5, iV_X5_lt (by omega), vrow_ne2 (by omega)]
theorem ks6 {B b : Nat} (h : b < B + 75) : kq6 B b = kq5 B b := by rw [kq6, iK_X3_lt (by omega), kset_ne2 (by omega)]
theorem ps6 {B b : Nat} (h : b < B + 75) (hb : b ≠ B) : pq6 B b = pq5 B b := by rw [pq6, pset_ne2 hb, iP_X3_lt (by omega), prow_ne2 (by omega)]
theorem pb6 {B j : Nat} (h : j ≠ 4) : pq6 B B j = pq5 B B j := by rw [pq6, pset_k2 h, iP_X3_lt (by omega), prow_ne2 (by omega)]
theorem pc6 {B : Nat} : pq6 B B 4 = some (B + 75) := by rw [pq6, pset_at2]
theorem vs6 {B b : Nat} (h : b < B + 75) : vq6 B b = vq5 B b := by rw [vq6, iV_X3_lt (by omega), vrow_ne2 (by omega)]
theorem ks7 {B b : Nat} (h : b < B + 80) : kq7 B b = kq6 B b := by rw [kq7, x4_lt (by omega), kset_ne2 (by omega)]
theorem ps7 {B b : Nat} (h : b < B + 80) (hb : b ≠ B) : pq7 B b = pq6 B b := by rw [pq7, pset_ne2 hb, p4_lt (by omega), prow_ne2 (by omega)]
theorem pb7 {B j : Nat} (h : j ≠ 5) : pq7 B B j = pq6 B B j := by rw [pq7, pset_k2 h, p4_lt (by omega), prow_ne2 (by omega)]
theorem pc7 {B : Nat} : pq7 B B 5 = some (B + 80) := by rw [pq7, pset_at2]
theorem vs7 {B b : Nat} (h : b < B + 80) : vq7 B b = vq6 B b := by rw [vq7, v4_lt (by omega), vrow_ne2 (by omega)]
theorem ks8 {B b : Nat} (h : b < B + 82) : kq8 B b = kq7 B b := by rw [kq8, x4_lt (by omega), kset_ne2 (by omega)]
theorem ps8 {B b : Nat} (h : b < B + 82) (hb : b ≠ B) : pq8 B b = pq7 B b := by rw [pq8, pset_ne2 hb, p4_lt (by omega), prow_ne2 (by omega)]
theorem pb8 {B j : Nat} (h : j ≠ 6) : pq8 B B j = pq7 B B j := by rw [pq8, pset_k2 h, p4_lt (by omega), prow_ne2 (by omega)]
theorem pc8 {B : Nat} : pq8 B B 6 = some (B + 82) := by rw [pq8, pset_at2]
theorem vs8 {B b : Nat} (h : b < B + 82) : vq8 B b = vq7 B b := by rw [vq8, v4_lt (by omega), vrow_ne2 (by omega)]
theorem ks9 {B b : Nat} (h : b < B + 84) : kq9 B b = kq8 B b := by rw [kq9, x4_lt (by omega), kset_ne2 (by omega)]
theorem ps9 {B b : Nat} (h : b < B + 84) (hb : b ≠ B) : pq9 B b = pq8 B b := by rw [pq9, pset_ne2 hb, p4_lt (by omega), prow_ne2 (by omega)]
theorem pb9 {B j : Nat} (h : j ≠ 7) : pq9 B B j = pq8 B B j := by rw [pq9, pset_k2 h, p4_lt (by omega), prow_ne2 (by omega)]
theorem pc9 {B : Nat} : pq9 B B 7 = some (B + 84) := by rw [pq9, pset_at2]
theorem vs9 {B b : Nat} (h : b < B + 84) : vq9 B b = vq8 B b := by rw [vq9, v4_lt (by omega), vrow_ne2 (by omega)]
theorem ks10 {B b : Nat} (h : b < B + 86) : kq10 B b = kq9 B b := by rw [kq10, x4_lt (by omega), kset_ne2 (by omega)]
theorem ps10 {B b : Nat} (h : b < B + 86) (hb : b ≠ B) : pq10 B b = pq9 B b := by rw [pq10, pset_ne2 hb, p4_lt (by omega), prow_ne2 (by omega)]
theorem pb10 {B j : Nat} (h : j ≠ 8) : pq10 B B j = pq9 B B j := by rw [pq10, pset_k2 h, p4_lt (by omega), prow_ne2 (by omega)]
theorem pc10 {B : Nat} : pq10 B B 8 = some (B + 86) := by rw [pq10, pset_at2]
theorem vs10 {B b : Nat} (h : b < B + 86) : vq10 B b = vq9 B b := by rw [vq10, v4_lt (by omega), vrow_ne2 (by omega)]
theorem kd1 {B b : Nat} (h : b < B + 1) : kq10 B b = kq1 B b := by rw [ks10 (by omega), ks9 (by omega), ks8 (by omega), ks7 (by omega), ks6 (by omega), ks5 (by omega), ks4 (by omega), ks3 (by omega), ks2 (by omega)]
theorem pd1 {B b : Nat} (h : b < B + 1) (hb : b ≠ B) : pq10 B b = pq1 B b := by rw [ps10 (by omega) hb, ps9 (by omega) hb, ps8 (by omega) hb, ps7 (by omega) hb, ps6 (by omega) hb, ps5 (by omega) hb, ps4 (by omega) hb, ps3 (by omega) hb, ps2 (by omega) hb]
theorem vz1 {B b : Nat} (h : b < B + 1) : vq10 B b = vq1 B b := by rw [vs10 (by omega), vs9 (by omega), vs8 (by omega), vs7 (by omega), vs6 (by omega), vs5 (by omega), vs4 (by omega), vs3 (by omega), vs2 (by omega)]
theorem kd2 {B b : Nat} (h : b < B + 3) : kq10 B b = kq2 B b := by rw [ks10 (by omega), ks9 (by omega), ks8 (by omega), ks7 (by omega), ks6 (by omega), ks5 (by omega), ks4 (by omega), ks3 (by omega)]
theorem pd2 {B b : Nat} (h : b < B + 3) (hb : b ≠ B) : pq10 B b = pq2 B b := by rw [ps10 (by omega) hb, ps9 (by omega) hb, ps8 (by omega) hb, ps7 (by omega) hb, ps6 (by omega) hb, ps5 (by omega) hb, ps4 (by omega) hb, ps3 (by omega) hb]
theorem vz2 {B b : Nat} (h : b < B + 3) : vq10 B b = vq2 B b := by rw [vs10 (by omega), vs9 (by omega), vs8 (by omega), vs7 (by omega), vs6 (by omega), vs5 (by omega), vs4 (by omega), vs3 (by omega)]
theorem kd3 {B b : Nat} (h : b < B + 27) : kq10 B b = kq3 B b := by rw [ks10 (by omega), ks9 (by omega), ks8 (by omega), ks7 (by omega), ks6 (by omega), ks5 (by omega), ks4 (by omega)]
theorem pd3 {B b : Nat} (h : b < B + 27) (hb : b ≠ B) : pq10 B b = pq3 B b := by rw [ps10 (by omega) hb, ps9 (by omega) hb, ps8 (by omega) hb, ps7 (by omega) hb, ps6 (by omega) hb, ps5 (by omega) hb, ps4 (by omega) hb]
theorem vz3 {B b : Nat} (h : b < B + 27) : vq10 B b = vq3 B b := by rw [vs10 (by omega), vs9 (by omega), vs8 (by omega), vs7 (by omega), vs6 (by omega), vs5 (by omega), vs4 (by omega)]
theorem kd4 {B b : Nat} (h : b < B + 51) : kq10 B b = kq4 B b := by rw [ks10 (by omega), ks9 (by omega), ks8 (by omega), ks7 (by omega), ks6 (by omega), ks5 (by omega)]
theorem pd4 {B b : Nat} (h : b < B + 51) (hb : b ≠ B) : pq10 B b = pq4 B b := by rw [ps10 (by omega) hb, ps9 (by omega) hb, ps8 (by omega) hb, ps7 (by omega) hb, ps6 (by omega) hb, ps5 (by omega) hb]
theorem vz4 {B b : Nat} (h : b < B + 51) : vq10 B b = vq4 B b := by rw [vs10 (by omega), vs9 (by omega), vs8 (by omega), vs7 (by omega), vs6 (by omega), vs5 (by omega)]
theorem kd5 {B b : Nat} (h : b < B + 75) : kq10 B b = kq5 B b := by rw [ks10 (by omega), ks9 (by omega), ks8 (by omega), ks7 (by omega), ks6 (by omega)]
theorem pd5 {B b : Nat} (h : b < B + 75) (hb : b ≠ B) : pq10 B b = pq5 B b := by rw [ps10 (by omega) hb, ps9 (by omega) hb, ps8 (by omega) hb, ps7 (by omega) hb, ps6 (by omega) hb]
theorem vz5 {B b : Nat} (h : b < B + 75) : vq10 B b = vq5 B b := by rw [vs10 (by omega), vs9 (by omega), vs8 (by omega), vs7 (by omega), vs6 (by omega)]
theorem kd6 {B b : Nat} (h : b < B + 80) : kq10 B b = kq6 B b := by rw [ks10 (by omega), ks9 (by omega), ks8 (by omega), ks7 (by omega)]
theorem pd6 {B b : Nat} (h : b < B + 80) (hb : b ≠ B) : pq10 B b = pq6 B b := by rw [ps10 (by omega) hb, ps9 (by omega) hb, ps8 (by omega) hb, ps7 (by omega) hb]
theorem vz6 {B b : Nat} (h : b < B + 80) : vq10 B b = vq6 B b := by rw [vs10 (by omega), vs9 (by omega), vs8 (by omega), vs7 (by omega)]
theorem kd7 {B b : Nat} (h : b < B + 82) : kq10 B b = kq7 B b := by rw [ks10 (by omega), ks9 (by omega), ks8 (by omega)]
theorem pd7 {B b : Nat} (h : b < B + 82) (hb : b ≠ B) : pq10 B b = pq7 B b := by rw [ps10 (by omega) hb, ps9 (by omega) hb, ps8 (by omega) hb]
theorem vz7 {B b : Nat} (h : b < B + 82) : vq10 B b = vq7 B b := by rw [vs10 (by omega), vs9 (by omega), vs8 (by omega)]
theorem kd8 {B b : Nat} (h : b < B + 84) : kq10 B b = kq8 B b := by rw [ks10 (by omega), ks9 (by omega)]
theorem pd8 {B b : Nat} (h : b < B + 84) (hb : b ≠ B) : pq10 B b = pq8 B b := by rw [ps10 (by omega) hb, ps9 (by omega) hb]
theorem vz8 {B b : Nat} (h : b < B + 84) : vq10 B b = vq8 B b := by rw [vs10 (by omega), vs9 (by omega)]
theorem kd9 {B b : Nat} (h : b < B + 86) : kq10 B b = kq9 B b := by rw [ks10 (by omega)]
theorem pd9 {B b : Nat} (h : b < B + 86) (hb : b ≠ B) : pq10 B b = pq9 B b := by rw [ps10 (by omega) hb]
theorem vz9 {B b : Nat} (h : b < B + 86) : vq10 B b = vq9 B b := by rw [vs10 (by omega)]
theorem x4_row {K : KT} {P : PT} {a N : Nat} (h : K a = some (.inl 2)) : RowK (iK_X4 K a N) (iP_X4 P a) a N := by
  refine ⟨?_, ?_, ?_⟩ <;> simp [iK_X4, iP_X4, kset, pset, h]
theorem cls0 (B : Nat) : ClsK (K0 B) (P0 B) B := by
  have kl : ∀ {b : Nat}, b ≤ B + 87 → B < b → K0 B b = kq10 B b := fun h h2 => by rw [k0_lo h h2, kq_end]
  have pl : ∀ {b : Nat}, b ≤ B + 87 → P0 B b = pq10 B b := fun h => by rw [p0_lo h, pq_end]
  have pB : ∀ j, P0 B B j = pq10 B B j := fun j => by rw [pl (by omega)]
  refine ⟨?_, ?_, ?_, ?_, ?_, ?_, ?_, ?_, ?_, ?_, ?_, ?_, ?_, ?_, ?_, ?_, ?_, ?_, ?_, ?_⟩
  · unfold K0
    rw [iK_X7_lt (by omega), kset_ne2 (by omega), iK_X6_lt (Nat.le_refl _), kset_at2]
  · rw [pB, pb10 (by decide), pb9 (by decide), pb8 (by decide), pb7 (by decide), pb6 (by decide), pb5 (by decide), pb4 (by decide), pb3 (by decide), pc2]
  · exact (x4_row (N := 60) (K := kset (kq1 B) (B + 1) (.inl 2)) (P := prow (pq1 B) (B + 1) (fun _ => none)) kset_at2).cg (fun b h1 h2 => by rw [kl (by omega) (by omega), kd2 (by omega)]; rfl) (by rw [pl (by omega), pd2 (by omega) (by omega), pq2, pset_ne2 (by omega)])
  · rw [pB, pb10 (by decide), pb9 (by decide), pb8 (by decide), pb7 (by decide), pb6 (by decide), pb5 (by decide), pb4 (by decide), pc3]
  · exact (x5_std (K := kset (kq2 B) (B + 3) (.inl 3)) (P := prow (pq2 B) (B + 3) (fun _ => none)) kset_at2).cg (fun b h1 h2 => by rw [kl (by omega) (by omega), kd3 (by omega)]; rfl) (fun b h1 h2 => by rw [pl (by omega), pd3 (by omega) (by omega), pq3, pset_ne2 (by omega)])
  · rw [pB, pb10 (by decide), pb9 (by decide), pb8 (by decide), pb7 (by decide), pb6 (by decide), pb5 (by decide), pc4]
  · exact (x5_std (K := kset (kq3 B) (B + 27) (.inl 3)) (P := prow (pq3 B) (B + 27) (fun _ => none)) kset_at2).cg (fun b h1 h2 => by rw [kl (by omega) (by omega), kd4 (by omega)]; rfl) (fun b h1 h2 => by rw [pl (by omega), pd4 (by omega) (by omega), pq4, pset_ne2 (by omega)])
  · rw [pB, pb10 (by decide), pb9 (by decide), pb8 (by decide), pb7 (by decide), pb6 (by decide), pc5]
  · exact (x5_std (K := kset (kq4 B) (B + 51) (.inl 3)) (P := prow (pq4 B) (B + 51) (fun _ => none)) kset_at2).cg (fun b h1 h2 => by rw [kl (by omega) (by omega), kd5 (by omega)]; rfl) (fun b h1 h2 => by rw [pl (by omega), pd5 (by omega) (by omega), pq5, pset_ne2 (by omega)])
  · rw [pB, pb10 (by decide), pb9 (by decide), pb8 (by decide), pb7 (by decide), pc6]
  · exact (x3_pas (K := kset (kq5 B) (B + 75) (.inl 1)) (P := prow (pq5 B) (B + 75) (fun _ => none)) kset_at2).cg (fun b h1 h2 => by rw [kl (by omega) (by omega), kd6 (by omega)]; rfl) (fun b h1 h2 => by rw [pl (by omega), pd6 (by omega) (by omega), pq6, pset_ne2 (by omega)])
  · rw [pB, pb10 (by decide), pb9 (by decide), pb8 (by decide), pc7]
  · exact (x4_row (N := 12) (K := kset (kq6 B) (B + 80) (.inl 2)) (P := prow (pq6 B) (B + 80) (fun _ => none)) kset_at2).cg (fun b h1 h2 => by rw [kl (by omega) (by omega), kd7 (by omega)]; rfl) (by rw [pl (by omega), pd7 (by omega) (by omega), pq7, pset_ne2 (by omega)])
  · rw [pB, pb10 (by decide), pb9 (by decide), pc8]
  · exact (x4_row (N := 6) (K := kset (kq7 B) (B + 82) (.inl 2)) (P := prow (pq7 B) (B + 82) (fun _ => none)) kset_at2).cg (fun b h1 h2 => by rw [kl (by omega) (by omega), kd8 (by omega)]; rfl) (by rw [pl (by omega), pd8 (by omega) (by omega), pq8, pset_ne2 (by omega)])
  · rw [pB, pb10 (by decide), pc9]
  · exact (x4_row (N := 5) (K := kset (kq8 B) (B + 84) (.inl 2)) (P := prow (pq8 B) (B + 84) (fun _ => none)) kset_at2).cg (fun b h1 h2 => by rw [kl (by omega) (by omega), kd9 (by omega)]; rfl) (by rw [pl (by omega), pd9 (by omega) (by omega), pq9, pset_ne2 (by omega)])
  · rw [pB, pc10]
  · exact (x4_row (N := 5) (K := kset (kq9 B) (B + 86) (.inl 2)) (P := prow (pq9 B) (B + 86) (fun _ => none)) kset_at2).cg (fun b h1 h2 => by rw [kl (by omega) (by omega)]; rfl) (by rw [pl (by omega), pq10, pset_ne2 (by omega)])
  · exact x7_mo kset_at2
