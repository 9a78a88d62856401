/-! PURE PART, 27: images restored -/
section RST
variable {K : KT} {P : PT} {B : Nat} {V : VT} {pad : List Int32} {S : StT} {M : Nat}
def R31 (V : VT) (M n j : Nat) : Prop := V (M + 2) j = V (M + 15) (70 * n + j) ∧ V (M + 3) j = V (M + 15) (70 * n + 5 + j) ∧ V (M + 4) j = V (M + 15) (70 * n + 10 + j) ∧ V (M + 5) j = V (M + 15) (70 * n + 15 + j) ∧ V (M + 7) j = V (M + 15) (70 * n + 20 + j)
theorem m_rst156 (hK : MoK K P M) {n : Nat} (hn : n < 2) :
    ∀ (m i : Nat) (V : VT), 12 - i < m → i ≤ 12 → (∀ j, j < i → V (M + 8) j = V (M + 15) (70 * n + 55 + j)) → ∃ V2, f_X7_restore_156 K P m M (nI (70 * n)) (nI i) V = some (1, V2) ∧ (∀ j, j < 12 → V2 (M + 8) j = V2 (M + 15) (70 * n + 55 + j)) ∧ V2 M 7 = V2 (M + 15) (70 * n + 67) ∧ V2 M 9 = V2 (M + 15) (70 * n + 68) ∧ MF M [8] [7, 9] V V2 := by
  intro m
  induction m with
  | zero => intro i V h; omega
  | succ m ih =>
    intro i V hm hi hc
    rw [f_X7_restore_156]
    by_cases hlt : i < 12
    · have f1 : MF M [8] [7, 9] V (vset V (M + 8) i (V (M + 15) (70 * n + 55 + i))) := MF.cel (by decide) (by decide)
      obtain ⟨V2, e2, a, b, d, f⟩ := ih (i + 1) (vset V (M + 8) i (V (M + 15) (70 * n + 55 + i))) (by omega) (by omega) (fun j hj => by
        rw [vset_ne (show M + 15 ≠ M + 8 by omega)]
        by_cases hji : j = i
        · rw [hji, vset_at]
        · rw [vset_k hji]; exact hc j (by omega))
      refine ⟨V2, ?_, a, b, d, f1.tr f⟩
      rw [if_pos (show nI i < 12 from (nI_ltI (b := 12) (by omega) (by decide)).mpr hlt), gR_k hK.1 hK.p10, gR_k hK.1 hK.p20, show (55 : Int32) = nI 55 from rfl, nI_add, nI_add, aI_n hK.k20 (by omega) (by decide), sA_n hK.k10 (by omega) (by decide), nI_1, e2]
    · have hi2 : i = 12 := by omega
      subst hi2
      rw [if_neg (by decide), gR_k hK.1 hK.p20, show (67 : Int32) = nI 67 from rfl, nI_add, aI_n hK.k20 (by omega) (by decide), sI_k hK.1, gR_k hK.1 hK.p20, show (68 : Int32) = nI 68 from rfl, nI_add, aI_n hK.k20 (by omega) (by decide), vset_ne (show M + 15 ≠ M by omega), sI_k hK.1]
      refine ⟨_, rfl, fun j hj => ?_, ?_, ?_, (MF.fld (by decide)).tr (MF.fld (by decide))⟩
      · rw [vset_ne (show M + 8 ≠ M by omega), vset_ne (show M + 8 ≠ M by omega), vset_ne (show M + 15 ≠ M by omega), vset_ne (show M + 15 ≠ M by omega)]; exact hc j hj
      · rw [vset_k (by decide), vset_at, vset_ne (show M + 15 ≠ M by omega), vset_ne (show M + 15 ≠ M by omega)]
      · rw [vset_at, vset_ne (show M + 15 ≠ M by omega), vset_ne (show M + 15 ≠ M by omega)]
theorem m_rst125 (hK : MoK K P M) {n : Nat} (hn : n < 2) :
    ∀ (m i : Nat) (V : VT), 30 - i < m → i ≤ 30 → (∀ j, j < i → V (M + 6) j = V (M + 15) (70 * n + 25 + j)) → ∃ V2, f_X7_restore_125 K P m M (nI (70 * n)) (nI i) V = f_X7_restore_156 K P FU M (nI (70 * n)) 0 V2 ∧ (∀ j, j < 30 → V2 (M + 6) j = V2 (M + 15) (70 * n + 25 + j)) ∧ MF M [6] [] V V2 := by
  intro m
  induction m with
  | zero => intro i V h; omega
  | succ m ih =>
    intro i V hm hi hc
    rw [f_X7_restore_125]
    by_cases hlt : i < 30
    · have f1 : MF M [6] [] V (vset V (M + 6) i (V (M + 15) (70 * n + 25 + i))) := MF.cel (by decide) (by decide)
      obtain ⟨V2, e2, a, f⟩ := ih (i + 1) (vset V (M + 6) i (V (M + 15) (70 * n + 25 + i))) (by omega) (by omega) (fun j hj => by
        rw [vset_ne (show M + 15 ≠ M + 6 by omega)]
        by_cases hji : j = i
        · rw [hji, vset_at]
        · rw [vset_k hji]; exact hc j (by omega))
      refine ⟨V2, ?_, a, f1.tr f⟩
      rw [if_pos (show nI i < 30 from (nI_ltI (b := 30) (by omega) (by decide)).mpr hlt), gR_k hK.1 hK.p6, gR_k hK.1 hK.p20, show (25 : Int32) = nI 25 from rfl, nI_add, nI_add, aI_n hK.k20 (by omega) (by decide), sA_n hK.k6 (by omega) (by decide), nI_1, e2]
    · have hi2 : i = 30 := by omega
      subst hi2
      rw [if_neg (by decide)]
      exact ⟨V, rfl, hc, MF.rf⟩
theorem m_rst31 (hK : MoK K P M) {n : Nat} (hn : n < 2) :
    ∀ (m i : Nat) (V : VT), 5 - i < m → i ≤ 5 → (∀ j, j < i → R31 V M n j) → ∃ V2, f_X7_restore_31 K P m M (nI (70 * n)) (nI i) V = f_X7_restore_125 K P FU M (nI (70 * n)) 0 V2 ∧ (∀ j, j < 5 → R31 V2 M n j) ∧ MF M [2, 3, 4, 5, 7] [] V V2 := by
  intro m
  induction m with
  | zero => intro i V h; omega
  | succ m ih =>
    intro i V hm hi hc
    rw [f_X7_restore_31]
    by_cases hlt : i < 5
    · let W : VT := vset (vset (vset (vset (vset V (M + 2) i (V (M + 15) (70 * n + i))) (M + 3) i (V (M + 15) (70 * n + 5 + i))) (M + 4) i (V (M + 15) (70 * n + 10 + i))) (M + 5) i (V (M + 15) (70 * n + 15 + i))) (M + 7) i (V (M + 15) (70 * n + 20 + i))
      have f1 : MF M [2, 3, 4, 5, 7] [] V W := ((((MF.cel (k := 2) (by decide) (by decide)).tr (MF.cel (k := 3) (by decide) (by decide))).tr (MF.cel (k := 4) (by decide) (by decide))).tr (MF.cel (k := 5) (by decide) (by decide))).tr (MF.cel (k := 7) (by decide) (by decide))
      have c2 : W (M + 2) = vset V (M + 2) i (V (M + 15) (70 * n + i)) (M + 2) := by
        show vset _ _ _ _ _ = _
        rw [vset_ne (by omega), vset_ne (by omega), vset_ne (by omega), vset_ne (by omega)]
      have c3 : ∀ j, W (M + 3) j = if j = i then V (M + 15) (70 * n + 5 + i) else V (M + 3) j := by
        intro j
        show vset _ _ _ _ _ _ = _
        rw [vset_ne (by omega), vset_ne (by omega), vset_ne (by omega)]
        by_cases hji : j = i
        · rw [if_pos hji, hji, vset_at]
        · rw [if_neg hji, vset_k hji, vset_ne (by omega)]
      have c4 : ∀ j, W (M + 4) j = if j = i then V (M + 15) (70 * n + 10 + i) else V (M + 4) j := by
        intro j
        show vset _ _ _ _ _ _ = _
        rw [vset_ne (by omega), vset_ne (by omega)]
        by_cases hji : j = i
        · rw [if_pos hji, hji, vset_at]
        · rw [if_neg hji, vset_k hji, vset_ne (by omega), vset_ne (by omega)]
      have c5 : ∀ j, W (M + 5) j = if j = i then V (M + 15) (70 * n + 15 + i) else V (M + 5) j := by
        intro j
        show vset _ _ _ _ _ _ = _
        rw [vset_ne (by omega)]
        by_cases hji : j = i
        · rw [if_pos hji, hji, vset_at]
        · rw [if_neg hji, vset_k hji, vset_ne (by omega), vset_ne (by omega), vset_ne (by omega)]
      have c7 : ∀ j, W (M + 7) j = if j = i then V (M + 15) (70 * n + 20 + i) else V (M + 7) j := by
        intro j
        show vset _ _ _ _ _ _ = _
        by_cases hji : j = i
        · rw [if_pos hji, hji, vset_at]
        · rw [if_neg hji, vset_k hji, vset_ne (by omega), vset_ne (by omega), vset_ne (by omega), vset_ne (by omega)]
      have c15 : W (M + 15) = V (M + 15) := f1.at (by decide) (by decide)
      have hW : ∀ j, j < i + 1 → R31 W M n j := by
        intro j hj
        unfold R31
        rw [c15, c2, c3, c4, c5, c7]
        by_cases hji : j = i
        · rw [hji, vset_at, if_pos rfl, if_pos rfl, if_pos rfl, if_pos rfl]
          exact ⟨rfl, rfl, rfl, rfl, rfl⟩
        · rw [vset_k hji, if_neg hji, if_neg hji, if_neg hji, if_neg hji]
          exact hc j (by omega)
      obtain ⟨V2, e2, a, f⟩ := ih (i + 1) W (by omega) (by omega) hW
      refine ⟨V2, ?_, a, f1.tr f⟩
      rw [if_pos (show nI i < 5 from (nI_ltI (b := 5) (by omega) (by decide)).mpr hlt), gR_k hK.1 hK.p2, gR_k hK.1 hK.p20, nI_add, aI_n hK.k20 (by omega) (by decide), sA_n hK.k2 (by omega) (by decide), gR_k hK.1 hK.p3, gR_k hK.1 hK.p20, show (5 : Int32) = nI 5 from rfl, nI_add, nI_add, aI_n hK.k20 (by omega) (by decide), vset_ne (show M + 15 ≠ M + 2 by omega), sA_n hK.k3 (by omega) (by decide), gR_k hK.1 hK.p4, gR_k hK.1 hK.p20, show (10 : Int32) = nI 10 from rfl, nI_add, nI_add, aI_n hK.k20 (by omega) (by decide), vset_ne (show M + 15 ≠ M + 3 by omega), vset_ne (show M + 15 ≠ M + 2 by omega), sA_n hK.k4 (by omega) (by decide), gR_k hK.1 hK.p5, gR_k hK.1 hK.p20, show (15 : Int32) = nI 15 from rfl, nI_add, nI_add, aI_n hK.k20 (by omega) (by decide), vset_ne (show M + 15 ≠ M + 4 by omega), vset_ne (show M + 15 ≠ M + 3 by omega), vset_ne (show M + 15 ≠ M + 2 by omega), sA_n hK.k5 (by omega) (by decide), gR_k hK.1 hK.p8, gR_k hK.1 hK.p20, show (20 : Int32) = nI 20 from rfl, nI_add, nI_add, aI_n hK.k20 (by omega) (by decide), vset_ne (show M + 15 ≠ M + 5 by omega), vset_ne (show M + 15 ≠ M + 4 by omega), vset_ne (show M + 15 ≠ M + 3 by omega), vset_ne (show M + 15 ≠ M + 2 by omega), sA_n hK.k8 (by omega) (by decide), nI_1]
      exact e2
    · have hi2 : i = 5 := by omega
      subst hi2
      rw [if_neg (by decide)]
      exact ⟨V, rfl, hc, MF.rf⟩
theorem R31.mf {V V2 : VT} {n j : Nat} {A J : List Nat} (h : R31 V M n j) (f : MF M A J V V2) (hA : ∀ k ∈ [2, 3, 4, 5, 7, 15], k ∉ A) : R31 V2 M n j := by
  have e := fun k (hk : k ∈ [2, 3, 4, 5, 7, 15]) (h0 : 0 < k) => f.at (hA k hk) h0
  unfold R31
  rw [e 2 (by decide) (by decide), e 3 (by decide) (by decide), e 4 (by decide) (by decide), e 5 (by decide) (by decide), e 7 (by decide) (by decide), e 15 (by decide) (by decide)]
  exact h
theorem m_restore (hK : MoK K P M) {S0 : StT} (hW : WfS S0) {n : Nat} (hn : n < 2) (hI : ImM V M n S0) : ∃ V2, f_X7_restore_31 K P FU M (nI (70 * n)) 0 V = some (1, V2) ∧ MoS V2 M S0 ∧ MF M [2, 3, 4, 5, 6, 7, 8] [7, 9] V V2 := by
  obtain ⟨V1, e1, a1, f1⟩ := m_rst31 hK hn FU 0 V (FU_lt (by omega)) (by omega) (fun j hj => by omega)
  obtain ⟨V2, e2, a2, f2⟩ := m_rst125 hK hn FU 0 V1 (FU_lt (by omega)) (by omega) (fun j hj => by omega)
  obtain ⟨V3, e3, a3, b3, c3, f3⟩ := m_rst156 hK hn FU 0 V2 (FU_lt (by omega)) (by omega) (fun j hj => by omega)
  rw [nI_0] at e1 e2 e3
  have ft : MF M [2, 3, 4, 5, 6, 7, 8] [7, 9] V V3 := ((f1.wd (by decide) (by decide)).tr (f2.wd (by decide) (by decide))).tr (f3.wd (by decide) (by decide))
  have h15 : V3 (M + 15) = V (M + 15) := ft.at (by decide) (by decide)
  have h15b : V2 (M + 15) = V (M + 15) := by rw [f2.at (by decide) (by decide), f1.at (by decide) (by decide)]
  obtain ⟨i1, i2, i3, i4, i5⟩ := hI
  refine ⟨V3, by rw [e1, e2, e3], ⟨fun i hi => ?_, ⟨by rw [b3, h15]; exact i2, fun j x hj => ?_⟩, by rw [c3, h15]; exact i4, fun j x hj => ?_⟩, ft⟩
  · have hr := ((a1 i hi).mf f2 (by decide)).mf f3 (by decide)
    obtain ⟨r1, r2, r3, r4, r5⟩ := hr
    obtain ⟨m1, m2, m3, m4, m5⟩ := i1 i hi
    refine ⟨by rw [r1, h15]; exact m1, by rw [r2, h15]; exact m2, by rw [r3, h15]; exact m3, by rw [r4, h15]; exact m4, fun j x hj => ?_⟩
    have hl := (List.getElem?_eq_some_iff.mp hj).1
    have hl6 := (hW.1 i hi).1
    rw [f3.at (by decide) (by decide), a2 _ (by omega), h15b]
    exact m5 j x hj
  · have hl := (List.getElem?_eq_some_iff.mp hj).1
    rw [List.length_map] at hl
    have := hW.2.1.1
    have hr := ((a1 j (by omega)).mf f2 (by decide)).mf f3 (by decide)
    rw [hr.2.2.2.2, h15]
    exact i3 j x hj
  · have hl := (List.getElem?_eq_some_iff.mp hj).1
    have := hW.2.2.1.2
    rw [a3 j (by omega), h15]
    exact i5 j x hj
theorem img_cases (x : Int32) : inB x 0 1 = false ∨ ∃ n : Nat, n < 2 ∧ x = nI n ∧ inB x 0 1 = true := by
  cases h : inB x 0 1 with
  | false => exact Or.inl rfl
  | true =>
    obtain ⟨a, b⟩ := inB_true h
    obtain ⟨j, -, h2, rfl⟩ := i32_in (lo := 0) (hi := 1) (by decide) (by decide) a b
    exact Or.inr ⟨j, by omega, rfl, rfl⟩
theorem c_isImage (x : Int32) (V : VT) : f_X6_isImage K P x V = some (bI (inB x 0 1), V) := by
  unfold f_X6_isImage inB
  split
  · rfl
  · by_cases h : x < 2
    · rw [if_pos h, if_neg]
      · rfl
      · intro z
        have a := Int32.lt_iff_toInt_lt.mp h
        have b := Int32.lt_iff_toInt_lt.mp z
        have c5 : (2 : Int32).toInt = 2 := by decide
        have c4 : (1 : Int32).toInt = 1 := by decide
        omega
    · rw [if_neg h, if_pos]
      · rfl
      · refine Int32.lt_iff_toInt_lt.mpr ?_
        have a := Int32.le_iff_toInt_le.mp (Int32.not_lt.mp h)
        have c5 : (2 : Int32).toInt = 2 := by decide
        have c4 : (1 : Int32).toInt = 1 := by decide
        omega
theorem c_imageAt (hK : ClsK K P B) {n : Nat} (hn : n < 2) (V : VT) : f_X6_imageAt K P B (nI n) V = some (B + 27 + 24 * n, V) := by
  have : n = 0 ∨ n = 1 := by omega
  rcases this with rfl | rfl
  · rw [f_X6_imageAt, if_pos nI_0, gR_k hK.k hK.p2]
  · rw [f_X6_imageAt, if_neg (by decide), gR_k hK.k hK.p3]
theorem imgK (hK : ClsK K P B) {n : Nat} (hn : n < 2) : StdK K P (B + 27 + 24 * n) := by
  have : n = 0 ∨ n = 1 := by omega
  rcases this with rfl | rfl
  · exact hK.s2
  · exact hK.s3
theorem e_image (hK : ClsK K P B) (x : Int32) : Eq2 B (fun V => f_X6_image K P B x V) (fun V => f_X7_image K P (B + 88) x V) := by
  intro V pad S h
  show ∃ r V1 V2, f_X6_image K P B x V = _ ∧ f_X7_image K P (B + 88) x V1 = _ ∧ _
  rcases img_cases x with hb | ⟨n, hn, rfl, hb⟩
  · refine ⟨-2, V, V, ?_, ?_, pad, S, h⟩
    · rw [f_X6_image, cS_k (c_isImage _ _), hb, show bI false = 0 from rfl, if_pos rfl]
    · rw [f_X7_image, cS_k (m_in _ _ _ _), hb, show bI false = 0 from rfl, if_pos rfl]
  · have hk := imgK hK hn
    obtain ⟨V1, e1, h1, f1⟩ := std_copyFrom (V := V) hk hK.s1 (by omega) h.c.std
    have f2 : Fr (B + 27 + 24 * n) (B + 27 + 24 * n + 24) V (vset V1 (B + 27 + 24 * n) 4 1) := (f1.wd (by omega) (by omega)).tr (Fr.set (by omega) (by omega))
    have h2 : StdV (vset V1 (B + 27 + 24 * n) 4 1) (B + 27 + 24 * n) S := h1.fr (Fr.set (lo := B + 27 + 24 * n) (hi := B + 27 + 24 * n + 1) (by omega) (by omega)) (by omega)
    have c2 : CV (vset V1 (B + 27 + 24 * n) 4 1) B pad S := ⟨h.c.pad.fr f2 (by omega), h.c.std.fr f2 (by omega), by unfold PasF; rw [f2 _ (by omega)]; exact h.c.pas⟩
    have ms2 := h.ms.fr f2 (by omega)
    have mp2 := h.mp.fr f2 (by omega)
    obtain ⟨V3, e3, i3, k3, f3, g3, g4⟩ := m_image hK.mo h.wf ms2 hn
    refine ⟨1, vset V1 (B + 27 + 24 * n) 4 1, V3, ?_, ?_, pad, S, h.lp, h.sp, h.wf, c2.mf f3, mp2.mf f3 (by decide) (by decide), ms2.mf f3 (by decide) (by decide), fun m hm => ?_⟩
    · rw [f_X6_image, cS_k (c_isImage _ _), hb, show bI true = 1 from rfl, if_neg (by decide), cV_k hK.k (c_imageAt hK hn V), gR_k hK.k hK.p1, cV_k hk.1 e1, sB_k hk.1 (Or.inr rfl)]
    · rw [f_X7_image, cS_k (m_in _ _ _ _), hb, show bI true = 1 from rfl, if_neg (by decide), show (70 : Int32) = nI 70 from rfl, pk_mul]; exact e3
    · by_cases hmn : m = n
      · subst hmn
        refine Or.inr ⟨by rw [f3.lo (by omega), vset_at], k3, S, h.wf, h2.mf f3 (by omega), i3⟩
      · refine (h.im m hm).keep2 (fun a h1 h2 => by rw [f3.lo (by omega)]; exact f2 a (by omega)) (fun k hk => ?_) ?_
        · rw [g3 _ (by omega)]; rw [f2 (B + 88 + 15) (by omega)]
        · rw [g4 m hmn]; rw [f2 (B + 88 + 16) (by omega)]
theorem e_restore (hK : ClsK K P B) (x : Int32) : Eq2 B (fun V => f_X6_restore K P B x V) (fun V => f_X7_restore K P (B + 88) x V) := by
  intro V pad S h
  show ∃ r V1 V2, f_X6_restore K P B x V = _ ∧ f_X7_restore K P (B + 88) x V1 = _ ∧ _
  rcases img_cases x with hb | ⟨n, hn, rfl, hb⟩
  · refine ⟨-2, V, V, ?_, ?_, pad, S, h⟩
    · rw [f_X6_restore, cS_k (c_isImage _ _), hb, show bI false = 0 from rfl, if_pos rfl]
    · rw [f_X7_restore, cS_k (m_in _ _ _ _), hb, show bI false = 0 from rfl, if_pos rfl]
  · have hk := imgK hK hn
    rcases h.im n hn with ⟨k1, k2⟩ | ⟨k1, k2, S0, hW, hst, him⟩
    · refine ⟨-3, V, V, ?_, ?_, pad, S, h⟩
      · rw [f_X6_restore, cS_k (c_isImage _ _), hb, show bI true = 1 from rfl, if_neg (by decide), cV_k hK.k (c_imageAt hK hn V), gI_k hk.1, k1, if_pos rfl]
      · rw [f_X7_restore, cS_k (m_in _ _ _ _), hb, show bI true = 1 from rfl, if_neg (by decide), gR_k hK.mo.1 hK.mo.p21, aI_n hK.mo.k21 (by omega) (by decide), k2, if_pos rfl]
    · obtain ⟨V1, e1, h1, f1⟩ := std_copyFrom (V := V) hK.s1 hk (by omega) hst
      have c1 : CV V1 B pad S0 := ⟨h.c.pad.fr f1 (by omega), h1, by unfold PasF; rw [f1 _ (by omega)]; exact h.c.pas⟩
      have mp1 := h.mp.fr f1 (by omega)
      have im1 : ImM V1 (B + 88) n S0 := by unfold ImM; rw [f1 (B + 88 + 15) (by omega)]; exact him
      obtain ⟨V2, e2, h2, f2⟩ := m_restore hK.mo hW hn im1
      refine ⟨1, V1, V2, ?_, ?_, pad, S0, Inv.mk2 h.lp h.sp hW c1 (fun m hm => (h.im m hm).fr hm f1 (by omega)) f2 (by decide) (mp1.mf f2 (by decide) (by decide)) h2⟩
      · rw [f_X6_restore, cS_k (c_isImage _ _), hb, show bI true = 1 from rfl, if_neg (by decide), cV_k hK.k (c_imageAt hK hn V), gI_k hk.1, k1, if_neg (by decide), gR_k hK.k hK.p1, cV_k hK.s1.1 e1]
      · have hk2 : V1 (B + 88 + 16) n = 1 := by rw [f1 _ (by omega)]; exact k2
        rw [f_X7_restore, cS_k (m_in _ _ _ _), hb, show bI true = 1 from rfl, if_neg (by decide), gR_k hK.mo.1 hK.mo.p21, aI_n hK.mo.k21 (by omega) (by decide), hk2, if_neg (by decide), show (70 : Int32) = nI 70 from rfl, pk_mul]; exact e2
end RST
