/-! PURE PART, 15: what is asked: told, behind, barred, read, spills -/
section ASK
variable {K : KT} {P : PT} {B : Nat} {V : VT} {pad : List Int32} {S : StT}
/-- a question: no more than the loose places change -/
theorem Inv.ask {V1 V2 : VT} (h : Inv B V pad S) (hq : CQ B V V1) (hm : MF (B + 88) AX JX V1 V2) : ∃ pad2 S2, Inv B V2 pad2 S2 := ⟨pad, S, (h.q hq).m hm⟩
theorem e_told (hK : ClsK K P B) (x : Int32) : Eq2 B (fun V => f_X6_told K P B x V) (fun V => f_X7_told K P (B + 88) x V) := by
  intro V pad S h
  show ∃ r V1 V2, f_X6_told K P B x V = _ ∧ f_X7_told K P (B + 88) x V1 = _ ∧ _
  have h5 := h.wf.2.1.1
  have h12 := h.wf.2.2.1.2
  have hsp := row_size hK.r0 h.c.pad
  have hsc := row_size hK.chK h.c.std.2.1
  rw [List.length_map] at hsc
  have hst := row_size hK.txK h.c.std.2.2
  have bad : (x < 0 ∨ ∃ j : Nat, j < 2 ^ 31 ∧ x = nI j ∧ ¬ (j ≤ 2) ∧ ¬ (10 ≤ j ∧ j ≤ 14) ∧ ¬ (20 ≤ j ∧ j ≤ 31)) → ∃ r V1 V2, f_X6_told K P B x V = some (r, V1) ∧ f_X7_told K P (B + 88) x V1 = some (r, V2) ∧ ∃ pad2 S2, Inv B V2 pad2 S2 := by
    intro hx
    have n0 : ¬ x = 0 := by
      rcases hx with hx | ⟨j, hj, rfl, a, -⟩
      · intro e; rw [e] at hx; revert hx; decide
      · exact nI_ne0 (by omega) hj
    have n1 : ¬ x = 1 := by
      rcases hx with hx | ⟨j, hj, rfl, a, -⟩
      · intro e; rw [e] at hx; revert hx; decide
      · exact fun z => absurd ((nI_eq (b := 1) hj (by decide)).mp z) (by omega)
    have n2 : ¬ x = 2 := by
      rcases hx with hx | ⟨j, hj, rfl, a, -⟩
      · intro e; rw [e] at hx; revert hx; decide
      · exact fun z => absurd ((nI_eq (b := 2) hj (by decide)).mp z) (by omega)
    have b1 : inB x 10 14 = false := by
      rcases hx with hx | ⟨j, hj, rfl, a, b, c⟩
      · unfold inB; rw [if_pos]
        refine Int32.lt_iff_toInt_lt.mpr ?_
        have := Int32.lt_iff_toInt_lt.mp hx
        have c0 : (0 : Int32).toInt = 0 := by decide
        have c5 : (10 : Int32).toInt = 10 := by decide
        omega
      · have := inB_nI (j := j) (lo := 10) (hi := 14) hj (by decide) (by decide)
        rw [decide_eq_false b] at this; exact this
    have b2 : inB x 20 31 = false := by
      rcases hx with hx | ⟨j, hj, rfl, a, b, c⟩
      · unfold inB; rw [if_pos]
        refine Int32.lt_iff_toInt_lt.mpr ?_
        have := Int32.lt_iff_toInt_lt.mp hx
        have c0 : (0 : Int32).toInt = 0 := by decide
        have c5 : (20 : Int32).toInt = 20 := by decide
        omega
      · have := inB_nI (j := j) (lo := 20) (hi := 31) hj (by decide) (by decide)
        rw [decide_eq_false c] at this; exact this
    have t71 : f_X6_told_71 K P B x V = some (-2, V) := by
      unfold f_X6_told_71
      rcases hx with hx | ⟨j, hj, rfl, a, b, c⟩
      · rw [if_pos]
        refine Int32.lt_iff_toInt_lt.mpr ?_
        have := Int32.lt_iff_toInt_lt.mp hx
        have c0 : (0 : Int32).toInt = 0 := by decide
        have c5 : (20 : Int32).toInt = 20 := by decide
        omega
      · by_cases q : j < 20
        · rw [if_pos (show nI j < 20 from (nI_ltI (b := 20) hj (by decide)).mpr q)]
        · rw [if_neg (show ¬ nI j < 20 from nI_notlt (b := 20) hj (by decide) (by omega)), if_neg (show ¬ nI j < 32 from nI_notlt (b := 32) hj (by decide) (by omega))]
    refine ⟨-2, V, V, ?_, ?_, pad, S, h⟩
    · rw [f_X6_told, if_neg n0, if_neg n1, if_neg n2, t71]
      split
      · rfl
      · rename_i q
        rw [if_neg]
        intro q2
        rcases hx with hx | ⟨j, hj, rfl, a, b, c⟩
        · apply q
          refine Int32.lt_iff_toInt_lt.mpr ?_
          have := Int32.lt_iff_toInt_lt.mp hx
          have c0 : (0 : Int32).toInt = 0 := by decide
          have c5 : (10 : Int32).toInt = 10 := by decide
          omega
        · have q3 : ¬ j < 10 := fun z => q ((nI_ltI (b := 10) hj (by decide)).mpr z)
          have q4 : j < 15 := (nI_ltI (b := 15) hj (by decide)).mp q2
          omega
    · rw [f_X7_told, cS_k (m_in _ _ _ _), b1, show bI false = 0 from rfl, if_pos rfl, cS_k (m_in _ _ _ _), b2, show bI false = 0 from rfl, if_pos rfl, if_neg n0, if_neg n1, if_neg n2]
  rcases i32_split x with hx | ⟨j, hj, rfl⟩
  · exact bad (Or.inl hx)
  · have b1 : inB (nI j) 10 14 = decide (10 ≤ j ∧ j ≤ 14) := inB_nI (lo := 10) (hi := 14) hj (by decide) (by decide)
    have b2 : inB (nI j) 20 31 = decide (20 ≤ j ∧ j ≤ 31) := inB_nI (lo := 20) (hi := 31) hj (by decide) (by decide)
    by_cases j0 : j = 0
    · subst j0
      refine ⟨nI pad.length, V, V, ?_, ?_, pad, S, h⟩
      · rw [f_X6_told, if_pos nI_0, gR_k hK.k hK.p0, cV_k hK.r0.1 hsp]
      · rw [f_X7_told, cS_k (m_in _ _ _ _), b1, show bI (decide (10 ≤ 0 ∧ 0 ≤ 14)) = 0 from rfl, if_pos rfl, cS_k (m_in _ _ _ _), b2, show bI (decide (20 ≤ 0 ∧ 0 ≤ 31)) = 0 from rfl, if_pos rfl, if_pos nI_0, gI_k hK.mo.1, h.mp.1]
    by_cases j1 : j = 1
    · subst j1
      refine ⟨nI S.2.2.length, V, V, ?_, ?_, pad, S, h⟩
      · rw [f_X6_told, if_neg (by decide), if_pos (show nI 1 = 1 from rfl), gR_k hK.k hK.p1, gR_k hK.s1.1 hK.tx, cV_k hK.txK.1 hst]
      · rw [f_X7_told, cS_k (m_in _ _ _ _), b1, show bI (decide (10 ≤ 1 ∧ 1 ≤ 14)) = 0 from rfl, if_pos rfl, cS_k (m_in _ _ _ _), b2, show bI (decide (20 ≤ 1 ∧ 1 ≤ 31)) = 0 from rfl, if_pos rfl, if_neg (by decide), if_pos (show nI 1 = 1 from rfl), gI_k hK.mo.1, h.ms.2.2.1]
    by_cases j2 : j = 2
    · subst j2
      refine ⟨nI S.2.1.length, V, V, ?_, ?_, pad, S, h⟩
      · rw [f_X6_told, if_neg (by decide), if_neg (by decide), if_pos (show nI 2 = 2 from rfl), gR_k hK.k hK.p1, gR_k hK.s1.1 hK.ch, cV_k hK.chK.1 hsc]
      · rw [f_X7_told, cS_k (m_in _ _ _ _), b1, show bI (decide (10 ≤ 2 ∧ 2 ≤ 14)) = 0 from rfl, if_pos rfl, cS_k (m_in _ _ _ _), b2, show bI (decide (20 ≤ 2 ∧ 2 ≤ 31)) = 0 from rfl, if_pos rfl, if_neg (by decide), if_neg (by decide), if_pos (show nI 2 = 2 from rfl), gI_k hK.mo.1, h.ms.2.1.1]
    have n0 : ¬ nI j = 0 := nI_ne0 (by omega) hj
    have n1 : ¬ nI j = 1 := fun z => absurd ((nI_eq (b := 1) hj (by decide)).mp z) (by omega)
    have n2 : ¬ nI j = 2 := fun z => absurd ((nI_eq (b := 2) hj (by decide)).mp z) (by omega)
    by_cases j10 : 10 ≤ j ∧ j ≤ 14
    · obtain ⟨q, rfl⟩ : ∃ q, j = q + 10 := ⟨j - 10, by omega⟩
      have hs : nI (q + 10) - 10 = nI q := nI_subk q 10
      have ha := row_atn (by decide) hK.chK h.c.std.2.1 (j := q) (by omega)
      refine ⟨(S.2.1.map nI).getD q (-6), V, V, ?_, ?_, pad, S, h⟩
      · rw [f_X6_told, if_neg n0, if_neg n1, if_neg n2, if_neg (show ¬ nI (q + 10) < 10 from nI_notlt (b := 10) hj (by decide) (by omega)), if_pos (show nI (q + 10) < 15 from (nI_ltI (b := 15) hj (by decide)).mpr (by omega)), gR_k hK.k hK.p1, gR_k hK.s1.1 hK.ch, hs, cV_k hK.chK.1 ha]
      · rw [f_X7_told, cS_k (m_in _ _ _ _), b1, decide_eq_true j10, show bI true = 1 from rfl, if_neg (by decide), gI_k hK.mo.1, h.ms.2.1.1, hs]
        by_cases hq : q < S.2.1.length
        · rw [if_pos ((nI_ltI (by omega) (by omega)).mpr hq), gR_k hK.mo.1 hK.mo.p8, aI_n hK.mo.k8 (by omega) (by decide), h.ms.2.1.2.get (by rw [List.length_map]; exact hq) (-6)]
        · rw [if_neg (fun z => hq ((nI_ltI (by omega) (by omega)).mp z)), getD_none (by rw [List.length_map]; omega)]
    by_cases j20 : 20 ≤ j ∧ j ≤ 31
    · obtain ⟨q, rfl⟩ : ∃ q, j = q + 20 := ⟨j - 20, by omega⟩
      have hs : nI (q + 20) - 20 = nI q := nI_subk q 20
      have ha := row_atn (by decide) hK.txK h.c.std.2.2 (j := q) (by omega)
      refine ⟨S.2.2.getD q (-6), V, V, ?_, ?_, pad, S, h⟩
      · rw [f_X6_told, if_neg n0, if_neg n1, if_neg n2, if_neg (show ¬ nI (q + 20) < 10 from nI_notlt (b := 10) hj (by decide) (by omega)), if_neg (show ¬ nI (q + 20) < 15 from nI_notlt (b := 15) hj (by decide) (by omega)), f_X6_told_71, if_neg (show ¬ nI (q + 20) < 20 from nI_notlt (b := 20) hj (by decide) (by omega)), if_pos (show nI (q + 20) < 32 from (nI_ltI (b := 32) hj (by decide)).mpr (by omega)), gR_k hK.k hK.p1, gR_k hK.s1.1 hK.tx, hs, cV_k hK.txK.1 ha]
      · rw [f_X7_told, cS_k (m_in _ _ _ _), b1, decide_eq_false j10, show bI false = 0 from rfl, if_pos rfl, cS_k (m_in _ _ _ _), b2, decide_eq_true j20, show bI true = 1 from rfl, if_neg (by decide), gI_k hK.mo.1, h.ms.2.2.1, hs]
        by_cases hq : q < S.2.2.length
        · rw [if_pos ((nI_ltI (by omega) (by omega)).mpr hq), gR_k hK.mo.1 hK.mo.p10, aI_n hK.mo.k10 (by omega) (by decide), h.ms.2.2.2.get hq (-6)]
        · rw [if_neg (fun z => hq ((nI_ltI (by omega) (by omega)).mp z)), getD_none (by omega)]
    · exact bad (Or.inr ⟨j, hj, rfl, by omega, j10, j20⟩)
/-- through the chain: what the class answers -/
theorem c_thru (hK : ClsK K P B) (h : CV V B pad S) {u Mu q Mq : Nat} {t : List Int32} {c : List Nat} {ou oq : Int32} (hMu : Mu ≤ 400) (hKu : RowK K P u Mu) (hu : RowV V u Mu t ou) (hdu : u + 2 ≤ B + 75 ∨ B + 75 + 5 ≤ u) (hMq : Mq < 1000) (hKq : RowK K P q Mq) (hq : RowV V q Mq (c.map nI) oq) (hdq : q + 2 ≤ B + 75 ∨ B + 75 + 5 ≤ q) (hc5 : ∀ x ∈ c, x < 5) (fg : Int32) :
    ∃ V2 res, f_X3_putThrough K P (B + 75) (B + 3) q u fg V = some (res, V2) ∧ ThruP V2 (B + 75) (thruL S.1 fg c 0 t) res ∧ CQ B V V2 ∧ Fr (B + 75) (B + 75 + 5) V V2 := by
  obtain ⟨V1, res, e1, h1, f1⟩ := pas_putThrough hK.q4 h.pas hK.s1 (by omega) hMq hKq hdq hc5 fg h.std.1 hq hMu hKu hdu hu
  refine ⟨V1, res, e1, h1, ⟨f1.wd (by omega) (by omega), ?_⟩, f1⟩
  cases hx : thruL S.1 fg c 0 t with
  | inl ek =>
    rw [hx] at h1
    obtain ⟨e, k⟩ := ek
    exact h1.2.2
  | inr o =>
    rw [hx] at h1
    exact h1.2.2.1
theorem e_behind (hK : ClsK K P B) (x y : Int32) : Eq2 B (fun V => f_X6_behind K P B x y V) (fun V => f_X7_behind K P (B + 88) x y V) := by
  intro V pad S h
  show ∃ r V1 V2, f_X6_behind K P B x y V = _ ∧ f_X7_behind K P (B + 88) x y V1 = _ ∧ _
  have hc5 := h.wf.2.1
  have h12 := h.wf.2.2.1
  have hsc := row_size hK.chK h.c.std.2.1
  rw [List.length_map] at hsc
  have bad : inB x 0 (nI S.2.1.length) = false → ∃ r V1 V2, f_X6_behind K P B x y V = some (r, V1) ∧ f_X7_behind K P (B + 88) x y V1 = some (r, V2) ∧ ∃ pad2 S2, Inv B V2 pad2 S2 := by
    intro hb
    refine ⟨-2, V, V, ?_, ?_, pad, S, h⟩
    · rw [f_X6_behind]
      rcases inB_false hb with z | z
      · rw [if_pos z]
      · split
        · rfl
        · rw [gR_k hK.k hK.p1, gR_k hK.s1.1 hK.ch, cV_k hK.chK.1 hsc, if_pos z]
    · rw [f_X7_behind, gI_k hK.mo.1, h.ms.2.1.1, cS_k (m_in _ _ _ _), hb, show bI false = 0 from rfl, if_pos rfl]
  cases hb : inB x 0 (nI S.2.1.length) with
  | false => exact bad hb
  | true =>
    obtain ⟨a, b⟩ := inB_true hb
    obtain ⟨m, -, hm, rfl⟩ := i32_in (lo := 0) (hi := S.2.1.length) (by omega) (by decide) (by rw [nI_0]; exact a) b
    obtain ⟨V1, e1, h1, f1⟩ := row_copyFirst (r := B + 82) (V := V) (by decide) hK.r6 (by decide) hK.chK (by omega) (k := m) (by rw [List.length_map]; exact hm) (by omega) h.c.std.2.1 (by omega)
    rw [← List.map_take] at h1
    have q1 : CQ B V V1 := CQ.of h.c.pas f1 (by omega) (by omega)
    have hV1 := h.q q1
    have hct : ∀ z ∈ S.2.1.take m, z < 5 := fun z hz => hc5.2 z (List.mem_of_mem_take hz)
    obtain ⟨V2, res, e2, h2, q2, f2⟩ := c_thru hK hV1.c (by decide) hK.txK hV1.c.std.2.2 (by omega) (by decide) hK.r6 h1 (by omega) hct (-6)
    have hV2 := hV1.q q2
    obtain ⟨V3, e3, h3, f3⟩ := m_layText hK.mo (V := V2) hV2.ms h12.2
    have hS3 := hV2.ms.mf f3 (by decide) (by decide)
    obtain ⟨V4, res2, e4, h4, f4⟩ := m_goThrough hK.mo h.wf hm (-6) hS3 h3 (by omega) h.wf.2.2.2
    have cls : ∀ r : Option (Int32 × VT), (if res = -7 then some (res, V2) else if res = -5 then some (res, V2) else if y = -1 then some (res, V2) else gR K P B 4 4 fun b17 => cV K b17 1 (f_X3_here K P b17 V2) fun b19 V18 => cV K b19 2 (f_X4_at K P b19 y V18) fun x21 V20 => some (x21, V20)) = r → f_X6_behind K P B (nI m) y V = r := by
      intro r hr
      rw [f_X6_behind, if_neg (nI_pos (by omega)), gR_k hK.k hK.p1, gR_k hK.s1.1 hK.ch, cV_k hK.chK.1 hsc, if_neg (nI_notlt (by omega) (by omega) hm), gR_k hK.k hK.p6, gR_k hK.k hK.p1, gR_k hK.s1.1 hK.ch, cV_k hK.r6.1 e1, gR_k hK.k hK.p4, gR_k hK.k hK.p1, gR_k hK.k hK.p6, gR_k hK.k hK.p1, gR_k hK.s1.1 hK.tx, cV_k hK.q4.1 e2]
      exact hr
    have ref : ∀ r : Option (Int32 × VT), (if res2 < 0 then some (res2, V4) else if y = -1 then gI K V4 (B + 88) 5 11 fun x13 => some (x13, V4) else gI K V4 (B + 88) 5 11 fun x8 => cS (f_X7_in K P y 0 (x8 - 1) V4) fun x10 V9 => if x10 = 0 then some ((-6 : Int32), V9) else gR K P (B + 88) 5 12 fun b11 => aI K V9 0 b11 y fun x12 => some (x12, V9)) = r → f_X7_behind K P (B + 88) (nI m) y V2 = r := by
      intro r hr
      rw [f_X7_behind, gI_k hK.mo.1, hV2.ms.2.1.1, cS_k (m_in _ _ _ _), hb, show bI true = 1 from rfl, if_neg (by decide), cV_k hK.mo.1 e3, cV_k hK.mo.1 e4]
      exact hr
    have fin : ∃ pad2 S2, Inv B V4 pad2 S2 := h.ask (q1.tr q2) ((f3.wd (by decide) (by decide)).tr (f4.wd (by decide) (by decide)))
    cases hx : thruL S.1 (-6) (S.2.1.take m) 0 S.2.2 with
    | inl ek =>
      rw [hx] at h2 h4
      obtain ⟨e, k⟩ := ek
      obtain ⟨rfl, -, -⟩ := h2
      obtain ⟨rfl, -⟩ := h4
      have he := (thruL_err _ _ _ _ _ _ _ hx).1
      refine ⟨res2, V2, V4, cls _ ?_, ref _ ?_, fin⟩
      · rcases he with rfl | rfl
        · rw [if_neg (by decide), if_pos rfl]
        · rw [if_pos rfl]
      · rw [if_pos (err_neg he)]
    | inr o =>
      rw [hx] at h2 h4
      obtain ⟨rfl, -, hp⟩ := h2
      obtain ⟨rfl, hro, hol, -⟩ := h4
      by_cases hy : y = -1
      · refine ⟨nI o.length, V2, V4, cls _ ?_, ref _ ?_, fin⟩
        · rw [if_neg (nI_ne_neg (by omega) (by decide)), if_neg (nI_ne_neg (by omega) (by decide)), if_pos hy]
        · rw [if_neg (by decide), if_pos hy, gI_k hK.mo.1, hro.1]
      · refine ⟨atI o y, V2, V4, cls _ ?_, ref _ ?_, fin⟩
        · rw [if_neg (nI_ne_neg (by omega) (by decide)), if_neg (nI_ne_neg (by omega) (by decide)), if_neg hy, gR_k hK.k hK.p4, cV_k hK.q4.1 (pas_here hK.q4 V2), cV_k (herK hK.q4 V2).1 (row_at (by decide) (herK hK.q4 V2) hp.2 y)]
        · rw [if_neg (by decide), if_neg hy]; exact m_at hK.mo hro hol y
end ASK
