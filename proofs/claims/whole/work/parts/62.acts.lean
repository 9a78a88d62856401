/-! PURE PART, 13: what is said, told, chained -/
def Eq2 (B : Nat) (fc fr : VT → Option (Int32 × VT)) : Prop := ∀ V pad S, Inv B V pad S → ∃ r V1 V2, fc V = some (r, V1) ∧ fr V1 = some (r, V2) ∧ ∃ pad2 S2, Inv B V2 pad2 S2
theorem Inv.mk2 {B : Nat} {V1 V2 : VT} {pad : List Int32} {S : StT} {A J : List Nat} (hl : pad.length ≤ 60) (hs : SgL pad) (wf : WfS S) (c : CV V1 B pad S) (im : ∀ n, n < 2 → Img V1 B n) (f : MF (B + 88) A J V1 V2) (hA : 15 ∉ A ∧ 16 ∉ A) (mp : PadM V2 (B + 88) pad) (ms : MoS V2 (B + 88) S) : Inv B V2 pad S :=
  ⟨hl, hs, wf, c.mf f, mp, ms, fun n hn => (im n hn).keep (fun a h1 h2 => f.lo (by omega)) (f.at hA.1 (by decide)) (f.at hA.2 (by decide))⟩
theorem Img.fr {B n lo hi : Nat} {V V2 : VT} (h : Img V B n) (hn : n < 2) (hf : Fr lo hi V V2) (hr : hi ≤ B + 27) : Img V2 B n := h.keep (fun a h1 h2 => hf a (by omega)) (hf _ (by omega)) (hf _ (by omega))
theorem sg_app {t : List Int32} {x : Int32} (h : SgL t) (hx : isSg x = true) : SgL (t ++ [x]) := by
  intro s hs
  rcases List.mem_append.mp hs with hs | hs
  · exact h s hs
  · simp only [List.mem_cons, List.not_mem_nil, or_false] at hs
    rw [hs]; exact hx
section ACT
variable {K : KT} {P : PT} {B : Nat}
theorem c_isLayer (x : Int32) (V : VT) : f_X6_isLayer K P x V = some (bI (inB x 0 4), V) := by
  unfold f_X6_isLayer inB
  split
  · rfl
  · by_cases h : x < 5
    · rw [if_pos h, if_neg]
      · rfl
      · intro z
        have a := Int32.lt_iff_toInt_lt.mp h
        have b := Int32.lt_iff_toInt_lt.mp z
        have c5 : (5 : Int32).toInt = 5 := by decide
        have c4 : (4 : Int32).toInt = 4 := by decide
        omega
    · rw [if_neg h, if_pos]
      · rfl
      · refine Int32.lt_iff_toInt_lt.mpr ?_
        have a := Int32.le_iff_toInt_le.mp (Int32.not_lt.mp h)
        have c5 : (5 : Int32).toInt = 5 := by decide
        have c4 : (4 : Int32).toInt = 4 := by decide
        omega
theorem lay_cases (x : Int32) : inB x 0 4 = false ∨ ∃ j : Nat, j < 5 ∧ x = nI j ∧ inB x 0 4 = true := by
  cases h : inB x 0 4 with
  | false => exact Or.inl rfl
  | true =>
    obtain ⟨a, b⟩ := inB_true h
    obtain ⟨j, -, h2, rfl⟩ := i32_in (lo := 0) (hi := 4) (by decide) (by decide) a b
    exact Or.inr ⟨j, by omega, rfl, rfl⟩
theorem e_say (hK : ClsK K P B) (x : Int32) : Eq2 B (fun V => f_X6_say K P B x V) (fun V => f_X7_say K P (B + 88) x V) := by
  intro V pad S h
  have hl := h.lp
  show ∃ r V1 V2, f_X6_say K P B x V = _ ∧ f_X7_say K P (B + 88) x V1 = _ ∧ _
  have ec := q_isSg (K := K) (P := P) x V
  cases hb : isSg x with
  | false =>
    refine ⟨-2, V, V, ?_, ?_, pad, S, h⟩
    · rw [f_X6_say, cS_k ec, hb, show bI false = 0 from rfl, if_pos rfl]
    · rw [f_X7_say, cS_k (m_in _ _ _ _), show inB x 33 126 = isSg x from rfl, hb, show bI false = 0 from rfl, if_pos rfl]
  | true =>
    by_cases h60 : pad.length < 60
    · obtain ⟨V1, e1, h1, f1⟩ := row_add (by decide) hK.r0 h.c.pad h60 x
      have mp1 := h.mp.fr f1 (by omega)
      have ms1 := h.ms.fr f1 (by omega)
      have c1 : CV V1 B (pad ++ [x]) S := ⟨h1, h.c.std.fr f1 (by omega), by unfold PasF; rw [f1 _ (by omega)]; exact h.c.pas⟩
      refine ⟨nI (pad.length + 1), V1, vset (vset V1 (B + 88 + 1) pad.length x) (B + 88) 0 (nI (pad.length + 1)), ?_, ?_, pad ++ [x], S, ?_⟩
      · rw [f_X6_say, cS_k ec, hb, show bI true = 1 from rfl, if_neg (by decide), gR_k hK.k hK.p0, cV_k hK.r0.1 (row_size hK.r0 h.c.pad), show (60 : Int32) = nI 60 from rfl, if_pos ((nI_ltI (by omega) (by omega)).mpr h60), gR_k hK.k hK.p0, cV_k hK.r0.1 e1, gR_k hK.k hK.p0, cV_k hK.r0.1 (row_size hK.r0 h1), List.length_append]; rfl
      · rw [f_X7_say, cS_k (m_in _ _ _ _), show inB x 33 126 = isSg x from rfl, hb, show bI true = 1 from rfl, if_neg (by decide), gI_k hK.mo.1, mp1.1, if_neg (show ¬ (nI pad.length = 60) from fun z => absurd ((nI_eq (b := 60) (by omega) (by decide)).mp z) (by omega)), gR_k hK.mo.1 hK.mo.p1, gI_k hK.mo.1, mp1.1, sA_n hK.mo.k1 h60 (by decide), gI_k hK.mo.1, vset_ne (by omega), mp1.1, nI_1, sI_k hK.mo.1, gI_k hK.mo.1, vset_at]
      · have f2 : MF (B + 88) [1] [0] V1 (vset (vset V1 (B + 88 + 1) pad.length x) (B + 88) 0 (nI (pad.length + 1))) := (MF.cel (k := 1) (by decide) (by decide)).tr (MF.fld (by decide))
        refine Inv.mk2 (by rw [List.length_append]; simp; omega) (sg_app h.sp hb) h.wf c1 (fun n hn => (h.im n hn).fr hn f1 (by omega)) f2 (by decide) ⟨by rw [vset_at, List.length_append]; rfl, ?_⟩ (ms1.mf f2 (by decide) (by decide))
        exact (mp1.2.push x).keep (vset_ne (by omega))
    · refine ⟨-4, V, V, ?_, ?_, pad, S, h⟩
      · rw [f_X6_say, cS_k ec, hb, show bI true = 1 from rfl, if_neg (by decide), gR_k hK.k hK.p0, cV_k hK.r0.1 (row_size hK.r0 h.c.pad), show (60 : Int32) = nI 60 from rfl, if_neg (fun z => h60 ((nI_ltI (by omega) (by omega)).mp z))]
      · have : pad.length = 60 := by omega
        rw [f_X7_say, cS_k (m_in _ _ _ _), show inB x 33 126 = isSg x from rfl, hb, show bI true = 1 from rfl, if_neg (by decide), gI_k hK.mo.1, h.mp.1, this, if_pos (show nI 60 = 60 from rfl)]
theorem e_wipe (hK : ClsK K P B) : Eq2 B (fun V => f_X6_wipe K P B V) (fun V => f_X7_wipe K P (B + 88) V) := by
  intro V pad S h
  have hl := h.lp
  show ∃ r V1 V2, f_X6_wipe K P B V = _ ∧ f_X7_wipe K P (B + 88) V1 = _ ∧ _
  obtain ⟨V1, e1, h1, f1⟩ := row_clear hK.r0 V
  have mp1 := h.mp.fr f1 (by omega)
  have ms1 := h.ms.fr f1 (by omega)
  have c1 : CV V1 B [] S := ⟨h1, h.c.std.fr f1 (by omega), by unfold PasF; rw [f1 _ (by omega)]; exact h.c.pas⟩
  have f2 : MF (B + 88) [] [0] V1 (vset V1 (B + 88) 0 0) := MF.fld (by decide)
  refine ⟨nI pad.length, V1, vset V1 (B + 88) 0 0, ?_, ?_, [], S, ?_⟩
  · rw [f_X6_wipe, gR_k hK.k hK.p0, cV_k hK.r0.1 (row_size hK.r0 h.c.pad), gR_k hK.k hK.p0, cV_k hK.r0.1 e1]
  · rw [f_X7_wipe, gI_k hK.mo.1, mp1.1, sI_k hK.mo.1]
  · exact Inv.mk2 (by simp) (fun x hx => by simp at hx) h.wf c1 (fun n hn => (h.im n hn).fr hn f1 (by omega)) f2 (by decide) ⟨by rw [vset_at]; exact nI_0.symm, ArV.nil⟩ (ms1.mf f2 (by decide) (by decide))
theorem e_fault (hK : ClsK K P B) : Eq2 B (fun V => f_X6_fault K P B V) (fun V => f_X7_fault K P (B + 88) V) := by
  intro V pad S h
  refine ⟨fltC pad, V, V, ?_, ?_, pad, S, h⟩
  · show f_X6_fault K P B V = _
    rw [f_X6_fault, gR_k hK.k hK.p0, cS_k (q_fault (by decide) hK.r0 h.c.pad)]
  · show f_X7_fault K P (B + 88) V = _
    rw [f_X7_fault, cV_k hK.mo.1 (m_fault hK.mo h.lp h.sp h.mp)]
theorem wf_upd {S : StT} {i : Nat} {y : LayT} (h : WfS S) (hy : wfL y) : WfS (updS S i y) := by
  refine ⟨fun k hk => ?_, h.2⟩
  show wfL (if k = i then y else S.1 k)
  split
  · exact hy
  · exact h.1 k hk
theorem e_layer (hK : ClsK K P B) (x : Int32) : Eq2 B (fun V => f_X6_layer K P B x V) (fun V => f_X7_layer K P (B + 88) x V) := by
  intro V pad S h
  have hl := h.lp
  show ∃ r V1 V2, f_X6_layer K P B x V = _ ∧ f_X7_layer K P (B + 88) x V1 = _ ∧ _
  rcases lay_cases x with hb | ⟨j, hj, rfl, hb⟩
  · refine ⟨-1, V, V, ?_, ?_, pad, S, h⟩
    · rw [f_X6_layer, cS_k (c_isLayer _ _), hb, show bI false = 0 from rfl, if_pos rfl]
    · rw [f_X7_layer, cS_k (m_isLayer _ _), hb, show bI false = 0 from rfl, if_pos rfl]
  · rcases fltC_cases pad hl with hf | ⟨q, hq, hf⟩
    · obtain ⟨w1, w2, w3, w4, w5⟩ := wf_bec hl hf
      have hlk := (hK.s1.2.2.2.2.2 j hj).2
      obtain ⟨V1, e1, h1, f1⟩ := lay_become (V := V) hlk (by decide) hK.r0 (by omega) h.c.pad w1.1 w2
      obtain ⟨V2, e2, h2, f2⟩ := row_clear hK.r0 V1
      have hL2 : LayV V2 (B + 3 + 9 + 3 * j) (becL pad) := h1.fr f2 (by omega)
      have f12 : Fr (B + 1) (B + 27) V V2 := (f1.wd (by omega) (by omega)).tr (f2.wd (by omega) (by omega))
      have mp2 := h.mp.fr f12 (by omega)
      have ms2 := h.ms.fr f12 (by omega)
      have c2 : CV V2 B [] (updS S j (becL pad)) := by
        refine ⟨h2, ⟨fun k hk => ?_, (h.c.std.2.1.fr f1 (by omega)).fr f2 (by omega), (h.c.std.2.2.fr f1 (by omega)).fr f2 (by omega)⟩, by unfold PasF; rw [f12 _ (by omega)]; exact h.c.pas⟩
        show LayV V2 (B + 3 + 9 + 3 * k) (if k = j then becL pad else S.1 k)
        split
        · rename_i z; rw [z]; exact hL2
        · rename_i z; exact ((h.c.std.1 k hk).fr f1 (by omega)).fr f2 (by omega)
      obtain ⟨V3, e3, h3, p3, f3⟩ := m_layer hK.mo hj hl h.sp ms2 h.wf hf mp2
      refine ⟨nI (becL pad).2.2.2.length, V2, V3, ?_, e3, [], updS S j (becL pad), Inv.mk2 (by simp) (fun x hx => by simp at hx) (wf_upd h.wf w1) c2 (fun n hn => (h.im n hn).fr hn f12 (by omega)) f3 (by decide) p3 h3⟩
      rw [f_X6_layer, cS_k (c_isLayer _ _), hb, show bI true = 1 from rfl, if_neg (by decide), gR_k hK.k hK.p0, cS_k (q_fault (by decide) hK.r0 h.c.pad), hf, if_pos rfl, gR_k hK.k hK.p1, cV_k hK.s1.1 (std_layerAt hK.s1 hj V), gR_k hK.k hK.p0, cV_k hlk.1 e1, gR_k hK.k hK.p0, cV_k hK.r0.1 e2, cV_k hlk.1 (lay_heldCount hlk hL2)]
    · refine ⟨-5, V, V, ?_, ?_, pad, S, h⟩
      · rw [f_X6_layer, cS_k (c_isLayer _ _), hb, show bI true = 1 from rfl, if_neg (by decide), gR_k hK.k hK.p0, cS_k (q_fault (by decide) hK.r0 h.c.pad), hf, if_neg (nI_ne_neg (by omega) (by decide))]
      · rw [f_X7_layer, cS_k (m_isLayer _ _), hb, show bI true = 1 from rfl, if_neg (by decide), cV_k hK.mo.1 (m_fault hK.mo hl h.sp h.mp), hf, if_neg (nI_pos (by omega))]
theorem e_about (hK : ClsK K P B) (x y : Int32) : Eq2 B (fun V => f_X6_about K P B x y V) (fun V => f_X7_about K P (B + 88) x y V) := by
  intro V pad S h
  show ∃ r V1 V2, f_X6_about K P B x y V = _ ∧ f_X7_about K P (B + 88) x y V1 = _ ∧ _
  rcases lay_cases x with hb | ⟨j, hj, rfl, hb⟩
  · refine ⟨-1, V, V, ?_, ?_, pad, S, h⟩
    · rw [f_X6_about, cS_k (c_isLayer _ _), hb, show bI false = 0 from rfl, if_pos rfl]
    · rw [f_X7_about, cS_k (m_isLayer _ _), hb, show bI false = 0 from rfl, if_pos rfl]
  · have hlk := (hK.s1.2.2.2.2.2 j hj).2
    obtain ⟨m1, m2, m3, m4, m5⟩ := h.ms.1 j hj
    have hwf := h.wf.1 j hj
    cases hy : inB y 0 8 with
    | false =>
      refine ⟨-2, V, V, ?_, ?_, pad, S, h⟩
      · rw [f_X6_about, cS_k (c_isLayer _ _), hb, show bI true = 1 from rfl, if_neg (by decide)]
        rcases inB_false hy with z | z
        · rw [if_pos z]
        · split
          · rfl
          · first | rfl | rw [if_pos z]
      · rw [f_X7_about, cS_k (m_isLayer _ _), hb, show bI true = 1 from rfl, if_neg (by decide), cS_k (m_in _ _ _ _), hy, show bI false = 0 from rfl, if_pos rfl]
    | true =>
      obtain ⟨a, b⟩ := inB_true hy
      obtain ⟨p, -, hp, rfl⟩ := i32_in (lo := 0) (hi := 8) (by decide) (by decide) a b
      refine ⟨partL (S.1 j) (nI p), V, V, ?_, ?_, pad, S, h⟩
      · rw [f_X6_about, cS_k (c_isLayer _ _), hb, show bI true = 1 from rfl, if_neg (by decide), if_neg a, if_neg b, gR_k hK.k hK.p1, cV_k hK.s1.1 (std_layerAt hK.s1 hj V), cV_k hlk.1 (lay_part hlk (h.c.std.1 j hj) _)]
      · rw [f_X7_about, cS_k (m_isLayer _ _), hb, show bI true = 1 from rfl, if_neg (by decide), cS_k (m_in _ _ _ _), hy, show bI true = 1 from rfl, if_neg (by decide)]
        unfold partL
        by_cases h0 : p = 0
        · subst h0
          rw [if_pos (show nI 0 < 3 by decide), if_pos (show nI 0 = 0 from nI_0), if_pos (show nI 0 = 0 from nI_0), gR_k hK.mo.1 hK.mo.p2, aI_n hK.mo.k2 hj (by decide), m1]
          unfold mkM
          by_cases h6 : (S.1 j).1 = -6
          · rw [if_pos h6, if_pos rfl, h6]
          · have h45 : (S.1 j).1 ≠ 45 := by rcases hwf.2.1 with z | z; exact absurd z h6; exact z.2
            rw [if_neg h6, if_neg h45, gR_k hK.mo.1 hK.mo.p2, aI_n hK.mo.k2 hj (by decide), m1]
            unfold mkM
            rw [if_neg h6]
        · by_cases h1 : p = 1
          · subst h1
            rw [if_pos (show nI 1 < 3 by decide), if_neg (show ¬ nI 1 = 0 by decide), if_pos (show nI 1 = 1 from rfl), if_neg (show ¬ nI 1 = 0 by decide), if_pos (show nI 1 = 1 from rfl), gR_k hK.mo.1 hK.mo.p3, aI_n hK.mo.k3 hj (by decide), m2]
          · by_cases h2 : p = 2
            · subst h2
              rw [if_pos (show nI 2 < 3 by decide), if_neg (show ¬ nI 2 = 0 by decide), if_neg (show ¬ nI 2 = 1 by decide), if_neg (show ¬ nI 2 = 0 by decide), if_neg (show ¬ nI 2 = 1 by decide), if_pos (show nI 2 = 2 from rfl), gR_k hK.mo.1 hK.mo.p4, aI_n hK.mo.k4 hj (by decide), m3]
            · obtain ⟨q, rfl⟩ : ∃ q, p = q + 3 := ⟨p - 3, by omega⟩
              have hs3 : nI (q + 3) - 3 = nI q := nI_subk q 3
              have hs63 : nI 6 * nI j + nI (q + 3) - 3 = nI (6 * j + q) := by
                rw [pk_mul, nI_add, ← Nat.add_assoc]; exact nI_subk _ 3
              rw [if_neg (show ¬ nI (q + 3) < 3 from nI_notlt (b := 3) (by omega) (by decide) (by omega)), if_neg (nI_ne0 (by omega) (by omega)), if_neg (show ¬ nI (q + 3) = 1 from fun z => absurd ((nI_eq (b := 1) (by omega) (by decide)).mp z) (by omega)), if_neg (show ¬ nI (q + 3) = 2 from fun z => absurd ((nI_eq (b := 2) (by omega) (by decide)).mp z) (by omega)), hs3, atI_n _ (by omega), gR_k hK.mo.1 hK.mo.p5, aI_n hK.mo.k5 hj (by decide), m4]
              have hl6 := hwf.1
              by_cases hq : q < (S.1 j).2.2.2.length
              · rw [if_pos ((nI_ltI (by omega) (by omega)).mpr hq), gR_k hK.mo.1 hK.mo.p6, show (6 : Int32) * nI j + nI (q + 3) - 3 = nI (6 * j + q) from hs63, aI_n hK.mo.k6 (by omega) (by decide), m5 q _ (List.getElem?_eq_getElem hq), List.getD_eq_getElem?_getD, List.getElem?_eq_getElem hq]; rfl
              · rw [if_neg (fun z => hq ((nI_ltI (by omega) (by omega)).mp z)), getD_none (by omega)]
end ACT
