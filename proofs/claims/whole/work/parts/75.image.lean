/-! PURE PART, 26: images -/
def CF (M lo hi : Nat) (V V2 : VT) : Prop := (∀ b, b ≠ M + 15 → V2 b = V b) ∧ ∀ k, (k < lo ∨ hi ≤ k) → V2 (M + 15) k = V (M + 15) k
theorem CF.rf {M lo hi : Nat} {V : VT} : CF M lo hi V V := ⟨fun _ _ => rfl, fun _ _ => rfl⟩
theorem CF.tr {M lo hi : Nat} {V V2 V3 : VT} (h : CF M lo hi V V2) (h2 : CF M lo hi V2 V3) : CF M lo hi V V3 := ⟨fun b hb => (h2.1 b hb).trans (h.1 b hb), fun k hk => (h2.2 k hk).trans (h.2 k hk)⟩
theorem CF.wd {M lo hi lo2 hi2 : Nat} {V V2 : VT} (h : CF M lo hi V V2) (h1 : lo2 ≤ lo) (h2 : hi ≤ hi2) : CF M lo2 hi2 V V2 := ⟨h.1, fun k hk => h.2 k (by omega)⟩
theorem CF.cel {M lo hi k : Nat} {V : VT} {x : Int32} (h1 : lo ≤ k) (h2 : k < hi) : CF M lo hi V (vset V (M + 15) k x) := ⟨fun b hb => vset_ne hb, fun j hj => vset_k (by omega)⟩
theorem CF.mf {M lo hi : Nat} {V V2 : VT} (h : CF M lo hi V V2) : MF M [15] [] V V2 := ⟨fun a _ h2 => h.1 a (h2 15 (by decide)), fun j _ => by rw [h.1 M (by omega)]⟩
theorem ImM.keep {V V2 : VT} {M n : Nat} {S : StT} (hw : WfS S) (h : ImM V M n S) (e : ∀ k, k < 70 → V2 (M + 15) (70 * n + k) = V (M + 15) (70 * n + k)) : ImM V2 M n S := by
  obtain ⟨h1, h2, h3, h4, h5⟩ := h
  refine ⟨fun i hi => ?_, by rw [e 67 (by omega)]; exact h2, fun j x hj => ?_, by rw [e 68 (by omega)]; exact h4, fun j x hj => ?_⟩
  · obtain ⟨a1, a2, a3, a4, a5⟩ := h1 i hi
    refine ⟨by rw [e i (by omega)]; exact a1, by rw [Nat.add_assoc, e (5 + i) (by omega), ← Nat.add_assoc]; exact a2, by rw [Nat.add_assoc, e (10 + i) (by omega), ← Nat.add_assoc]; exact a3, by rw [Nat.add_assoc, e (15 + i) (by omega), ← Nat.add_assoc]; exact a4, fun j x hj => ?_⟩
    have := (List.getElem?_eq_some_iff.mp hj).1
    have := (hw.1 i hi).1
    rw [Nat.add_assoc, e (25 + (6 * i + j)) (by omega), ← Nat.add_assoc]; exact a5 j x hj
  · have := (List.getElem?_eq_some_iff.mp hj).1
    rw [List.length_map] at this
    have := hw.2.1.1
    rw [Nat.add_assoc, e (20 + j) (by omega), ← Nat.add_assoc]; exact h3 j x hj
  · have := (List.getElem?_eq_some_iff.mp hj).1
    have := hw.2.2.1.2
    rw [Nat.add_assoc, e (55 + j) (by omega), ← Nat.add_assoc]; exact h5 j x hj
theorem Img.keep2 {V V2 : VT} {B n : Nat} (h : Img V B n) (e1 : ∀ a, B + 27 + 24 * n ≤ a → a < B + 27 + 24 * n + 24 → V2 a = V a) (e2 : ∀ k, k < 70 → V2 (B + 88 + 15) (70 * n + k) = V (B + 88 + 15) (70 * n + k)) (e3 : V2 (B + 88 + 16) n = V (B + 88 + 16) n) : Img V2 B n := by
  have e0 := e1 (B + 27 + 24 * n) (by omega) (by omega)
  rcases h with ⟨h1, h2⟩ | ⟨h1, h2, S, hw, h3, h4⟩
  · exact Or.inl ⟨by rw [e0]; exact h1, by rw [e3]; exact h2⟩
  · refine Or.inr ⟨by rw [e0]; exact h1, by rw [e3]; exact h2, S, hw, ?_, h4.keep hw e2⟩
    refine ⟨fun i hi => ?_, h3.2.1.keep (e1 _ (by omega) (by omega)) (e1 _ (by omega) (by omega)), h3.2.2.keep (e1 _ (by omega) (by omega)) (e1 _ (by omega) (by omega))⟩
    obtain ⟨a1, a2, a3, a4⟩ := h3.1 i hi
    have ea := e1 (B + 27 + 24 * n + 9 + 3 * i) (by omega) (by omega)
    exact ⟨by rw [ea]; exact a1, by rw [ea]; exact a2, by rw [ea]; exact a3, a4.keep (e1 _ (by omega) (by omega)) (e1 _ (by omega) (by omega))⟩
section IMG
variable {K : KT} {P : PT} {B : Nat} {V : VT} {pad : List Int32} {S : StT} {M : Nat}
def C19 (V : VT) (M n j : Nat) : Prop := V (M + 15) (70 * n + j) = V (M + 2) j ∧ V (M + 15) (70 * n + 5 + j) = V (M + 3) j ∧ V (M + 15) (70 * n + 10 + j) = V (M + 4) j ∧ V (M + 15) (70 * n + 15 + j) = V (M + 5) j ∧ V (M + 15) (70 * n + 20 + j) = V (M + 7) j
theorem C19.cf {V V2 : VT} {n j lo hi : Nat} (h : C19 V M n j) (f : CF M lo hi V V2) (h1 : ∀ d, d = 0 ∨ d = 5 ∨ d = 10 ∨ d = 15 ∨ d = 20 → (70 * n + d + j < lo ∨ hi ≤ 70 * n + d + j)) : C19 V2 M n j := by
  obtain ⟨a1, a2, a3, a4, a5⟩ := h
  have d0 := h1 0 (by omega)
  rw [Nat.add_zero] at d0
  exact ⟨by rw [f.2 _ d0, f.1 _ (by omega)]; exact a1, by rw [f.2 _ (h1 5 (by omega)), f.1 _ (by omega)]; exact a2, by rw [f.2 _ (h1 10 (by omega)), f.1 _ (by omega)]; exact a3, by rw [f.2 _ (h1 15 (by omega)), f.1 _ (by omega)]; exact a4, by rw [f.2 _ (h1 20 (by omega)), f.1 _ (by omega)]; exact a5⟩
theorem m_img144 (hK : MoK K P M) {n : Nat} (hn : n < 2) (c : Int32) (l1 : Int32) (hl1 : l1 = nI n) :
    ∀ (m i : Nat) (V : VT), 12 - i < m → i ≤ 12 → (∀ j, j < i → V (M + 15) (70 * n + 55 + j) = V (M + 8) j) → ∃ V2, f_X7_image_144 K P m M l1 (nI (70 * n)) (nI i) V = some (1, V2) ∧ (∀ j, j < 12 → V2 (M + 15) (70 * n + 55 + j) = V (M + 8) j) ∧ V2 (M + 15) (70 * n + 67) = V M 7 ∧ V2 (M + 15) (70 * n + 68) = V M 9 ∧ (∃ V1, CF M (70 * n + 55) (70 * n + 69) V V1 ∧ V2 = vset V1 (M + 16) n 1) := by
  intro m
  induction m with
  | zero => intro i V h; omega
  | succ m ih =>
    intro i V hm hi hc
    rw [f_X7_image_144]
    by_cases hlt : i < 12
    · have f1 : CF M (70 * n + 55) (70 * n + 69) V (vset V (M + 15) (70 * n + 55 + i) (V (M + 8) i)) := CF.cel (by omega) (by omega)
      obtain ⟨V2, e2, a, b, d, V1, f, g⟩ := ih (i + 1) (vset V (M + 15) (70 * n + 55 + i) (V (M + 8) i)) (by omega) (by omega) (fun j hj => by
        rw [vset_ne (show M + 8 ≠ M + 15 by omega)]
        by_cases hji : j = i
        · rw [hji, vset_at]
        · rw [vset_k (by omega)]; exact hc j (by omega))
      rw [vset_ne (show M ≠ M + 15 by omega)] at b d
      refine ⟨V2, ?_, fun j hj => by rw [a j hj, vset_ne (by omega)], b, d, V1, f1.tr f, g⟩
      rw [if_pos (show nI i < 12 from (nI_ltI (b := 12) (by omega) (by decide)).mpr hlt), gR_k hK.1 hK.p20, gR_k hK.1 hK.p10, aI_n hK.k10 (by omega) (by decide), show (55 : Int32) = nI 55 from rfl, nI_add, nI_add, sA_n hK.k20 (by omega) (by decide), nI_1, e2]
    · have hi2 : i = 12 := by omega
      subst hi2
      rw [if_neg (by decide), gR_k hK.1 hK.p20, gI_k hK.1, show (67 : Int32) = nI 67 from rfl, nI_add, sA_n hK.k20 (by omega) (by decide), gR_k hK.1 hK.p20, gI_k hK.1, vset_ne (show M ≠ M + 15 by omega), show (68 : Int32) = nI 68 from rfl, nI_add, sA_n hK.k20 (by omega) (by decide), gR_k hK.1 hK.p21, hl1, sZ_n hK.k21 (by omega) (by decide) (Or.inr rfl)]
      refine ⟨_, rfl, fun j hj => ?_, ?_, ?_, _, (CF.cel (lo := 70 * n + 55) (hi := 70 * n + 69) (by omega) (by omega)).tr (CF.cel (by omega) (by omega)), rfl⟩
      · rw [vset_ne (by omega), vset_k (by omega), vset_k (by omega)]; exact hc j hj
      · rw [vset_ne (by omega), vset_k (by omega), vset_at]
      · rw [vset_ne (by omega), vset_at]
theorem m_img113 (hK : MoK K P M) {n : Nat} (hn : n < 2) (l1 : Int32) :
    ∀ (m i : Nat) (V : VT), 30 - i < m → i ≤ 30 → (∀ j, j < i → V (M + 15) (70 * n + 25 + j) = V (M + 6) j) → ∃ V2, f_X7_image_113 K P m M l1 (nI (70 * n)) (nI i) V = f_X7_image_144 K P FU M l1 (nI (70 * n)) 0 V2 ∧ (∀ j, j < 30 → V2 (M + 15) (70 * n + 25 + j) = V2 (M + 6) j) ∧ CF M (70 * n + 25) (70 * n + 55) V V2 := by
  intro m
  induction m with
  | zero => intro i V h; omega
  | succ m ih =>
    intro i V hm hi hc
    rw [f_X7_image_113]
    by_cases hlt : i < 30
    · have f1 : CF M (70 * n + 25) (70 * n + 55) V (vset V (M + 15) (70 * n + 25 + i) (V (M + 6) i)) := CF.cel (by omega) (by omega)
      obtain ⟨V2, e2, a, f⟩ := ih (i + 1) (vset V (M + 15) (70 * n + 25 + i) (V (M + 6) i)) (by omega) (by omega) (fun j hj => by
        rw [vset_ne (show M + 6 ≠ M + 15 by omega)]
        by_cases hji : j = i
        · rw [hji, vset_at]
        · rw [vset_k (by omega)]; exact hc j (by omega))
      refine ⟨V2, ?_, a, f1.tr f⟩
      rw [if_pos (show nI i < 30 from (nI_ltI (b := 30) (by omega) (by decide)).mpr hlt), gR_k hK.1 hK.p20, gR_k hK.1 hK.p6, aI_n hK.k6 (by omega) (by decide), show (25 : Int32) = nI 25 from rfl, nI_add, nI_add, sA_n hK.k20 (by omega) (by decide), nI_1, e2]
    · have hi2 : i = 30 := by omega
      subst hi2
      rw [if_neg (by decide)]
      exact ⟨V, rfl, hc, CF.rf⟩
theorem m_img19 (hK : MoK K P M) {n : Nat} (hn : n < 2) (l1 : Int32) :
    ∀ (m i : Nat) (V : VT), 5 - i < m → i ≤ 5 → (∀ j, j < i → C19 V M n j) → ∃ V2, f_X7_image_19 K P m M l1 (nI (70 * n)) (nI i) V = f_X7_image_113 K P FU M l1 (nI (70 * n)) 0 V2 ∧ (∀ j, j < 5 → C19 V2 M n j) ∧ CF M (70 * n) (70 * n + 25) V V2 := by
  intro m
  induction m with
  | zero => intro i V h; omega
  | succ m ih =>
    intro i V hm hi hc
    rw [f_X7_image_19]
    by_cases hlt : i < 5
    · let W : VT := vset (vset (vset (vset (vset V (M + 15) (70 * n + i) (V (M + 2) i)) (M + 15) (70 * n + 5 + i) (V (M + 3) i)) (M + 15) (70 * n + 10 + i) (V (M + 4) i)) (M + 15) (70 * n + 15 + i) (V (M + 5) i)) (M + 15) (70 * n + 20 + i) (V (M + 7) i)
      have f1 : CF M (70 * n) (70 * n + 25) V W := ((((CF.cel (by omega) (by omega)).tr (CF.cel (by omega) (by omega))).tr (CF.cel (by omega) (by omega))).tr (CF.cel (by omega) (by omega))).tr (CF.cel (by omega) (by omega))
      have hW : ∀ j, j < i + 1 → C19 W M n j := by
        intro j hj
        by_cases hji : j = i
        · subst hji
          refine ⟨?_, ?_, ?_, ?_, ?_⟩
          · rw [f1.1 (M + 2) (by omega)]
            show vset _ _ _ _ _ _ = _
            rw [vset_k (by omega), vset_k (by omega), vset_k (by omega), vset_k (by omega), vset_at]
          · rw [f1.1 (M + 3) (by omega)]
            show vset _ _ _ _ _ _ = _
            rw [vset_k (by omega), vset_k (by omega), vset_k (by omega), vset_at]
          · rw [f1.1 (M + 4) (by omega)]
            show vset _ _ _ _ _ _ = _
            rw [vset_k (by omega), vset_k (by omega), vset_at]
          · rw [f1.1 (M + 5) (by omega)]
            show vset _ _ _ _ _ _ = _
            rw [vset_k (by omega), vset_at]
          · rw [f1.1 (M + 7) (by omega)]
            show vset _ _ _ _ _ _ = _
            rw [vset_at]
        · obtain ⟨a1, a2, a3, a4, a5⟩ := hc j (by omega)
          refine ⟨?_, ?_, ?_, ?_, ?_⟩
          · rw [f1.1 (M + 2) (by omega), ← a1]
            show vset _ _ _ _ _ _ = _
            rw [vset_k (by omega), vset_k (by omega), vset_k (by omega), vset_k (by omega), vset_k (by omega)]
          · rw [f1.1 (M + 3) (by omega), ← a2]
            show vset _ _ _ _ _ _ = _
            rw [vset_k (by omega), vset_k (by omega), vset_k (by omega), vset_k (by omega), vset_k (by omega)]
          · rw [f1.1 (M + 4) (by omega), ← a3]
            show vset _ _ _ _ _ _ = _
            rw [vset_k (by omega), vset_k (by omega), vset_k (by omega), vset_k (by omega), vset_k (by omega)]
          · rw [f1.1 (M + 5) (by omega), ← a4]
            show vset _ _ _ _ _ _ = _
            rw [vset_k (by omega), vset_k (by omega), vset_k (by omega), vset_k (by omega), vset_k (by omega)]
          · rw [f1.1 (M + 7) (by omega), ← a5]
            show vset _ _ _ _ _ _ = _
            rw [vset_k (by omega), vset_k (by omega), vset_k (by omega), vset_k (by omega), vset_k (by omega)]
      obtain ⟨V2, e2, a, f⟩ := ih (i + 1) W (by omega) (by omega) hW
      refine ⟨V2, ?_, a, f1.tr f⟩
      rw [if_pos (show nI i < 5 from (nI_ltI (b := 5) (by omega) (by decide)).mpr hlt), gR_k hK.1 hK.p20, gR_k hK.1 hK.p2, aI_n hK.k2 (by omega) (by decide), nI_add, sA_n hK.k20 (by omega) (by decide), gR_k hK.1 hK.p20, gR_k hK.1 hK.p3, aI_n hK.k3 (by omega) (by decide), vset_ne (show M + 3 ≠ M + 15 by omega), show (5 : Int32) = nI 5 from rfl, nI_add, nI_add, sA_n hK.k20 (by omega) (by decide), gR_k hK.1 hK.p20, gR_k hK.1 hK.p4, aI_n hK.k4 (by omega) (by decide), vset_ne (show M + 4 ≠ M + 15 by omega), vset_ne (show M + 4 ≠ M + 15 by omega), show (10 : Int32) = nI 10 from rfl, nI_add, nI_add, sA_n hK.k20 (by omega) (by decide), gR_k hK.1 hK.p20, gR_k hK.1 hK.p5, aI_n hK.k5 (by omega) (by decide), vset_ne (show M + 5 ≠ M + 15 by omega), vset_ne (show M + 5 ≠ M + 15 by omega), vset_ne (show M + 5 ≠ M + 15 by omega), show (15 : Int32) = nI 15 from rfl, nI_add, nI_add, sA_n hK.k20 (by omega) (by decide), gR_k hK.1 hK.p20, gR_k hK.1 hK.p8, aI_n hK.k8 (by omega) (by decide), vset_ne (show M + 7 ≠ M + 15 by omega), vset_ne (show M + 7 ≠ M + 15 by omega), vset_ne (show M + 7 ≠ M + 15 by omega), vset_ne (show M + 7 ≠ M + 15 by omega), show (20 : Int32) = nI 20 from rfl, nI_add, nI_add, sA_n hK.k20 (by omega) (by decide), nI_1]
      exact e2
    · have hi2 : i = 5 := by omega
      subst hi2
      rw [if_neg (by decide)]
      exact ⟨V, rfl, hc, CF.rf⟩
theorem m_image (hK : MoK K P M) (hW : WfS S) (hS : MoS V M S) {n : Nat} (hn : n < 2) : ∃ V2, f_X7_image_19 K P FU M (nI n) (nI (70 * n)) 0 V = some (1, V2) ∧ ImM V2 M n S ∧ V2 (M + 16) n = 1 ∧ MF M [15, 16] [] V V2 ∧ (∀ k, (k < 70 * n ∨ 70 * n + 69 ≤ k) → V2 (M + 15) k = V (M + 15) k) ∧ ∀ k, k ≠ n → V2 (M + 16) k = V (M + 16) k := by
  obtain ⟨V1, e1, a1, f1⟩ := m_img19 hK hn (nI n) FU 0 V (FU_lt (by omega)) (by omega) (fun j hj => by omega)
  obtain ⟨V2, e2, a2, f2⟩ := m_img113 hK hn (nI n) FU 0 V1 (FU_lt (by omega)) (by omega) (fun j hj => by omega)
  obtain ⟨V3, e3, a3, b3, c3, V4, f4, g⟩ := m_img144 hK hn 0 (nI n) rfl FU 0 V2 (FU_lt (by omega)) (by omega) (fun j hj => by omega)
  rw [nI_0] at e1 e2 e3
  have f2w : CF M (70 * n) (70 * n + 69) V1 V2 := f2.wd (by omega) (by omega)
  have f4w : CF M (70 * n) (70 * n + 69) V2 V4 := f4.wd (by omega) (by omega)
  have ft : CF M (70 * n) (70 * n + 69) V V4 := ((f1.wd (by omega) (by omega)).tr f2w).tr f4w
  have e34 : ∀ b, b ≠ M + 16 → V3 b = V4 b := fun b hb => by rw [g, vset_ne hb]
  have src : ∀ b, b ≠ M + 15 → b ≠ M + 16 → V3 b = V b := fun b h1 h2 => by rw [e34 b h2, ft.1 b h1]
  refine ⟨V3, by rw [e1, e2, e3], ⟨fun i hi => ?_, ?_, fun j x hj => ?_, ?_, fun j x hj => ?_⟩, by rw [g, vset_at], ⟨fun a _ hA => src a (hA 15 (by decide)) (hA 16 (by decide)), fun j _ => by rw [src M (by omega) (by omega)]⟩, fun k hk => by rw [e34 _ (by omega), ft.2 k hk], fun k hk => by rw [g, vset_k hk, ft.1 _ (by omega)]⟩
  · have hc := ((a1 i hi).cf f2 (fun d hd => by omega)).cf f4 (fun d hd => by omega)
    obtain ⟨c1, c2, c3', c4, c5⟩ := hc
    obtain ⟨m1, m2, m3, m4, m5⟩ := hS.1 i hi
    rw [e34 (M + 15) (by omega)]
    refine ⟨by rw [c1, ft.1 _ (by omega)]; exact m1, by rw [c2, ft.1 _ (by omega)]; exact m2, by rw [c3', ft.1 _ (by omega)]; exact m3, by rw [c4, ft.1 _ (by omega)]; exact m4, fun j x hj => ?_⟩
    have hl := (List.getElem?_eq_some_iff.mp hj).1
    have hl6 := (hW.1 i hi).1
    have h1 := f4.2 (70 * n + 25 + (6 * i + j)) (by omega)
    rw [h1, a2 _ (by omega), f2.1 _ (by omega), f1.1 _ (by omega)]
    exact m5 j x hj
  · rw [b3, f2.1 _ (by omega), f1.1 _ (by omega)]; exact hS.2.1.1
  · have hc5 : j < 5 := by
      have := (List.getElem?_eq_some_iff.mp hj).1
      rw [List.length_map] at this
      have := hW.2.1.1; omega
    have hc := ((a1 j hc5).cf f2 (fun d hd => by omega)).cf f4 (fun d hd => by omega)
    rw [e34 (M + 15) (by omega), hc.2.2.2.2, ft.1 _ (by omega)]
    exact hS.2.1.2 j x hj
  · rw [c3, f2.1 _ (by omega), f1.1 _ (by omega)]; exact hS.2.2.1
  · have hc12 : j < 12 := by
      have := (List.getElem?_eq_some_iff.mp hj).1
      have := hW.2.2.1.2; omega
    rw [a3 j hc12, f2.1 _ (by omega), f1.1 _ (by omega)]
    exact hS.2.2.2 j x hj
end IMG
