/-! PURE PART, 24: the reference's orders -/
theorem ArV.set {V : VT} {a : Nat} {l : List Int32} (h : ArV V a l) {i : Nat} (hi : i < l.length) (x : Int32) : ArV (vset V a i x) a (l.set i x) := by
  intro j y hj
  by_cases hji : j = i
  · subst hji
    rw [List.getElem?_set_self hi] at hj
    cases hj
    exact vset_at
  · rw [List.getElem?_set_ne (fun z => hji z.symm)] at hj
    rw [vset_k hji]; exact h j y hj
theorem i32_tri {a b : Int32} (h1 : ¬ a < b) (h2 : a ≠ b) : b < a := by
  have e := Int32.le_iff_toInt_le.mp (Int32.not_lt.mp h1)
  have e2 : a.toInt ≠ b.toInt := fun z => h2 (Int32.toInt_inj.mp z)
  exact Int32.lt_iff_toInt_lt.mpr (by omega)
theorem i32_asym {a b : Int32} (h : a < b) : ¬ b < a := by
  intro z
  have e1 := Int32.lt_iff_toInt_lt.mp h
  have e2 := Int32.lt_iff_toInt_lt.mp z
  omega
theorem i32_irr {a : Int32} : ¬ a < a := by
  intro z
  have := Int32.lt_iff_toInt_lt.mp z
  omega
section ORDM
variable {K : KT} {P : PT} {B : Nat} {V : VT} {pad : List Int32} {S : StT} {M : Nat}
theorem m_rev (hK : MoK K P M) :
    ∀ (n a b : Nat) (V : VT) (l : List Int32), b - a < n → 1 ≤ b → b ≤ l.length → l.length ≤ 5 → a < 100 → ArV V (M + 12) l → ∃ V2, f_X7_nextOrder_107 K P n M (nI a) (nI b - 1) V = some (1, V2) ∧ ArV V2 (M + 12) (rvs n l a b) ∧ MF M [12] [] V V2 := by
  intro n
  induction n with
  | zero => intro a b V l h; omega
  | succ n ih =>
    intro a b V l hn hb hbl hl ha h
    obtain ⟨b, rfl⟩ : ∃ k, b = k + 1 := ⟨b - 1, by omega⟩
    rw [f_X7_nextOrder_107, nI_sub1]
    unfold rvs
    by_cases hlt : a < b
    · have g1 := h.get (i := a) (by omega) (-6)
      have g2 := h.get (i := b) (by omega) (-6)
      have h1 := h.set (i := a) (by omega) (l.getD b (-6))
      have h2 := h1.set (i := b) (by rw [List.length_set]; omega) (l.getD a (-6))
      rw [if_pos ((nI_ltI (by omega) (by omega)).mpr hlt), gR_k hK.1 hK.p17, aI_n hK.k17 (by omega) (by decide), g1, gR_k hK.1 hK.p17, gR_k hK.1 hK.p17, aI_n hK.k17 (by omega) (by decide), g2, sA_n hK.k17 (by omega) (by decide), gR_k hK.1 hK.p17, sA_n hK.k17 (by omega) (by decide), nI_1, nI_add_m1, if_pos (by omega), Nat.add_sub_cancel]
      obtain ⟨V2, e2, r2, f2⟩ := ih (a + 1) b _ _ (by omega) (by omega) (by simp; omega) (by simp; omega) (by omega) h2
      exact ⟨V2, e2, r2, ((MF.cel (k := 12) (by decide) (by decide)).tr (MF.cel (k := 12) (by decide) (by decide))).tr f2⟩
    · rw [if_neg (fun z => hlt ((nI_ltI (by omega) (by omega)).mp z)), if_neg (by omega), rB_1]
      exact ⟨V, rfl, h, MF.rf⟩
def Dis (n : Nat) (l : List Int32) : Prop := ∀ i j, i < n → j < n → i ≠ j → l.getD i (-6) ≠ l.getD j (-6)
theorem m_no47 (hK : MoK K P M) {l : List Int32} (hl5 : l.length ≤ 5) (hd : Dis l.length l) (h7 : V M 7 = nI l.length) (h : ArV V (M + 12) l) {rise : Nat} (hr : rise + 1 < l.length) (hup : l.getD rise (-6) < l.getD (rise + 1) (-6)) :
    ∀ (n j : Nat), j < n → rise + 1 < j → j ≤ l.length → ∃ V2, f_X7_nextOrder_47 K P n M (nI rise) (nI j - 1) V = some (1, V2) ∧ ArV V2 (M + 12) (rvs 1000 ((l.set rise (l.getD (no45 l rise j) (-6))).set (no45 l rise j) (l.getD rise (-6))) (rise + 1) l.length) ∧ MF M [12] [] V V2 := by
  intro n
  induction n with
  | zero => intro j h; omega
  | succ n ih =>
    intro j hn hj hjl
    obtain ⟨j, rfl⟩ : ∃ k, j = k + 1 := ⟨j - 1, by omega⟩
    have g1 := h.get (i := rise) (by omega) (-6)
    have g2 := h.get (i := j) (by omega) (-6)
    rw [f_X7_nextOrder_47, nI_sub1, gR_k hK.1 hK.p17, aI_n hK.k17 (by omega) (by decide), g2, gR_k hK.1 hK.p17, aI_n hK.k17 (by omega) (by decide), g1]
    unfold no45
    rw [if_pos (show rise < j by omega)]
    by_cases hlt : l.getD j (-6) < l.getD rise (-6)
    · rw [if_pos hlt, if_neg (i32_asym hlt), nI_add_m1]
      have hne : j ≠ rise + 1 := by
        intro z
        rw [z] at hlt
        exact i32_asym hup hlt
      exact ih j (by omega) (by omega) (by omega)
    · have hgt := i32_tri hlt (hd j rise (by omega) (by omega) (by omega))
      have h1 := h.set (i := rise) (by omega) (l.getD j (-6))
      have h2 := h1.set (i := j) (by rw [List.length_set]; omega) (l.getD rise (-6))
      rw [if_neg hlt, if_pos hgt, gR_k hK.1 hK.p17, aI_n hK.k17 (by omega) (by decide), g1, gR_k hK.1 hK.p17, gR_k hK.1 hK.p17, aI_n hK.k17 (by omega) (by decide), g2, sA_n hK.k17 (by omega) (by decide), gR_k hK.1 hK.p17, sA_n hK.k17 (by omega) (by decide), gI_k hK.1, vset_ne (by omega), vset_ne (by omega), h7, nI_1]
      obtain ⟨V2, e2, r2, f2⟩ := m_rev hK FU (rise + 1) l.length _ _ (FU_lt (by omega)) (by omega) (by simp) (by simp; omega) (by omega) h2
      rw [rvs_fuel 1000 _ _ _ (by omega) FU (by unfold FU; omega)] at r2
      exact ⟨V2, e2, r2, ((MF.cel (k := 12) (by decide) (by decide)).tr (MF.cel (k := 12) (by decide) (by decide))).tr f2⟩
theorem m_no7 (hK : MoK K P M) {l : List Int32} (hl5 : l.length ≤ 5) (hd : Dis l.length l) (h7 : V M 7 = nI l.length) (h : ArV V (M + 12) l) :
    ∀ (n i : Nat), i < n → i + 1 ≤ l.length → ∃ V2, f_X7_nextOrder_7 K P n M (nI i - 1) V = some (bI (match no7 l i with | 0 => (l, false) | rise + 1 => (rvs 1000 ((l.set rise (l.getD (no45 l rise l.length) (-6))).set (no45 l rise l.length) (l.getD rise (-6))) (rise + 1) l.length, true)).2, V2) ∧ ArV V2 (M + 12) (match no7 l i with | 0 => (l, false) | rise + 1 => (rvs 1000 ((l.set rise (l.getD (no45 l rise l.length) (-6))).set (no45 l rise l.length) (l.getD rise (-6))) (rise + 1) l.length, true)).1 ∧ MF M [12] [] V V2 := by
  intro n
  induction n with
  | zero => intro i h; omega
  | succ n ih =>
    intro i hn hi
    cases i with
    | zero =>
      refine ⟨V, ?_, h, MF.rf⟩
      rw [f_X7_nextOrder_7, if_pos (by decide), f_X7_nextOrder_34, if_pos (by decide)]; rfl
    | succ i =>
      have g1 := h.get (i := i) (by omega) (-6)
      have g2 := h.get (i := i + 1) (by omega) (-6)
      rw [f_X7_nextOrder_7, nI_sub1, if_neg (nI_pos (by omega)), gR_k hK.1 hK.p17, aI_n hK.k17 (by omega) (by decide), g1, gR_k hK.1 hK.p17, nI_1, aI_n hK.k17 (by omega) (by decide), g2]
      unfold no7
      by_cases hlt : l.getD (i + 1) (-6) < l.getD i (-6)
      · rw [if_pos hlt, if_neg (i32_asym hlt), nI_add_m1]
        exact ih i (by omega) (by omega)
      · have hgt := i32_tri hlt (hd (i + 1) i (by omega) (by omega) (by omega))
        rw [if_neg hlt, if_pos hgt, f_X7_nextOrder_34, if_neg (nI_pos (by omega)), gI_k hK.1, h7]
        exact m_no47 hK hl5 hd h7 h (by omega) hgt FU l.length (FU_lt (by omega)) (by omega) (Nat.le_refl _)
theorem m_nextOrder (hK : MoK K P M) {l : List Int32} (hl5 : l.length ≤ 5) (hl1 : 1 ≤ l.length) (hd : Dis l.length l) (h7 : V M 7 = nI l.length) (h : ArV V (M + 12) l) : ∃ V2, f_X7_nextOrder K P M V = some (bI (nxO l).2, V2) ∧ ArV V2 (M + 12) (nxO l).1 ∧ MF M [12] [] V V2 := by
  obtain ⟨V2, e2, h2, f2⟩ := m_no7 hK hl5 hd h7 h FU (l.length - 1) (FU_lt (by omega)) (by omega)
  refine ⟨V2, ?_, h2, f2⟩
  have : nI l.length - 2 = nI (l.length - 1) - 1 := by
    obtain ⟨k, hk⟩ : ∃ k, l.length = k + 1 := ⟨l.length - 1, by omega⟩
    rw [hk, nI_succ, Int32.sub_eq_add_neg, Int32.add_assoc, show (1 : Int32) + -2 = -1 by decide, nI_add_m1]; rfl
  rw [f_X7_nextOrder, gI_k hK.1, h7, this, e2]; rfl
abbrev AO : List Nat := [7, 9, 10, 11, 12, 13, 14]
/-- all but the chain's own cells -/
def RS (V : VT) (M : Nat) (S : StT) : Prop := (∀ i, i < 5 → MLay V M i (S.1 i)) ∧ V M 7 = nI S.2.1.length ∧ V M 9 = nI S.2.2.length ∧ ArV V (M + 8) S.2.2
theorem RS.mf {V V2 : VT} {M : Nat} {A J : List Nat} {S : StT} (h : RS V M S) (hf : MF M A J V V2) (hA : ∀ k ∈ [2, 3, 4, 5, 6, 8], k ∉ A) (hJ : ∀ k ∈ [7, 9], k ∉ J) : RS V2 M S :=
  ⟨fun i hi => (h.1 i hi).mf hf (fun k hk => hA k (by revert hk; simp; omega)), by rw [hf.2 7 (hJ 7 (by decide))]; exact h.2.1, by rw [hf.2 9 (hJ 9 (by decide))]; exact h.2.2.1, h.2.2.2.keep (hf.at (hA 8 (by decide)) (by decide))⟩
def OS (V V0 : VT) (M : Nat) (S : StT) (l : List Int32) (b : Option (Nat × List Int32)) : Prop := (∀ i, i < 5 → V (M + 14) i = V0 (M + 7) i) ∧ ArV V (M + 12) l ∧ RS V M S ∧ ArV V (M + 13) (bL b)
theorem m_o55 (hK : MoK K P M) (hw : WfS S) {V0 : VT} (h0 : ArV V0 (M + 7) (S.2.1.map nI)) {l : List Int32} (hl : okL S.2.1.length l = true) (k48 : Nat → Int32 → Int32 → Int32 → VT → Option (Int32 × VT)) (x l2 : Int32) :
    ∀ (n i : Nat) (V : VT), S.2.1.length - i < n → i ≤ S.2.1.length → (∀ i, i < 5 → V (M + 14) i = V0 (M + 7) i) → ArV V (M + 12) l → RS V M S → ArV V (M + 7) (((cpm S l).take i).map nI) → ∃ V2, f_X7_order_55 K P k48 n M x l2 (nI i) V = f_X7_order_55 K P k48 1 M x l2 (nI S.2.1.length) V2 ∧ ArV V2 (M + 7) ((cpm S l).map nI) ∧ MF M [7] [] V V2 := by
  intro n
  induction n with
  | zero => intro i V h; omega
  | succ n ih =>
    intro i V hn hi hk hp hR hc
    obtain ⟨o1, o2, o3, o4⟩ := okL_all hl
    have h5 := hw.2.1
    have hcl := cpm_len (S := S) hl
    by_cases hlt : i < S.2.1.length
    · have hns : i < (nsL l).length := by unfold nsL; rw [List.length_map]; omega
      have hg : l.getD i (-6) = nI ((nsL l).getD i 0) := by
        have := map_nI_getD hns (-6)
        rw [o1] at this; exact this
      have hdn : (nsL l).getD i 0 < S.2.1.length := by
        rw [List.getD_eq_getElem?_getD, List.getElem?_eq_getElem hns]; exact o3 _ (List.getElem_mem _)
      have hv : V (M + 14) ((nsL l).getD i 0) = nI (S.2.1.getD ((nsL l).getD i 0) 0) := by
        rw [hk _ (by omega), h0.get (by rw [List.length_map]; omega) (-6), map_nI_getD (by omega)]
      have hm : ((cpm S l).take i).map nI ++ [nI (S.2.1.getD ((nsL l).getD i 0) 0)] = ((cpm S l).take (i + 1)).map nI := by
        have hc : (cpm S l)[i]? = some (S.2.1.getD ((nsL l).getD i 0) 0) := by
          unfold cpm
          have hg : (nsL l).getD i 0 = (nsL l)[i] := by rw [List.getD_eq_getElem?_getD, List.getElem?_eq_getElem hns]; rfl
          rw [List.getElem?_map, List.getElem?_eq_getElem hns, hg]; rfl
        rw [List.take_add_one, List.map_append, hc]; rfl
      have hc2 := hc.push (nI (S.2.1.getD ((nsL l).getD i 0) 0))
      rw [hm, List.length_map, List.length_take, show min i (cpm S l).length = i by omega] at hc2
      have f1 : MF M [7] [] V (vset V (M + 7) i (nI (S.2.1.getD ((nsL l).getD i 0) 0))) := MF.cel (by decide) (by decide)
      obtain ⟨V2, e2, h2, f2⟩ := ih (i + 1) _ (by omega) (by omega) (fun z hz => by rw [vset_ne (by omega)]; exact hk z hz) (hp.keep (vset_ne (by omega))) (hR.mf f1 (by decide) (by decide)) hc2
      refine ⟨V2, ?_, h2, f1.tr f2⟩
      rw [f_X7_order_55, gI_k hK.1, hR.2.1, if_pos ((nI_ltI (by omega) (by omega)).mpr hlt), gR_k hK.1 hK.p8, gR_k hK.1 hK.p19, gR_k hK.1 hK.p17, aI_n hK.k17 (by omega) (by decide), hp.get (by omega) (-6), hg, aI_n hK.k19 (by omega) (by decide), hv, sA_n hK.k8 (by omega) (by decide), nI_1, e2]
    · have hie : i = S.2.1.length := by omega
      subst hie
      rw [List.take_of_length_le (by omega)] at hc
      refine ⟨V, ?_, hc, MF.rf⟩
      rw [f_X7_order_55, gI_k hK.1, hR.2.1, if_neg i32_irr, f_X7_order_55, gI_k hK.1, hR.2.1, if_neg i32_irr]
end ORDM
