/-! PURE PART, 14: the chain, the text, what is told of them -/
section ACT2
variable {K : KT} {P : PT} {B : Nat}
theorem e_chain (hK : ClsK K P B) (x : Int32) : Eq2 B (fun V => f_X6_chain K P B x V) (fun V => f_X7_chain K P (B + 88) x V) := by
  intro V pad S h
  show ∃ r V1 V2, f_X6_chain K P B x V = _ ∧ f_X7_chain K P (B + 88) x V1 = _ ∧ _
  have hc5 := h.wf.2.1
  rcases lay_cases x with hb | ⟨j, hj, rfl, hb⟩
  · refine ⟨-1, V, V, ?_, ?_, pad, S, h⟩
    · rw [f_X6_chain, cS_k (c_isLayer _ _), hb, show bI false = 0 from rfl, if_pos rfl]
    · rw [f_X7_chain, cS_k (m_isLayer _ _), hb, show bI false = 0 from rfl, if_pos rfl]
  · have hs := row_size hK.chK h.c.std.2.1
    rw [List.length_map] at hs
    by_cases h5 : S.2.1.length < 5
    · obtain ⟨V1, e1, h1, f1⟩ := row_add (by decide) hK.chK h.c.std.2.1 (by rw [List.length_map]; exact h5) (nI j)
      have hmap : S.2.1.map nI ++ [nI j] = (S.2.1 ++ [j]).map nI := by simp
      rw [hmap] at h1
      have mp1 := h.mp.fr f1 (by omega)
      have ms1 := h.ms.fr f1 (by omega)
      have c1 : CV V1 B pad (S.1, S.2.1 ++ [j], S.2.2) := ⟨h.c.pad.fr f1 (by omega), ⟨fun k hk => (h.c.std.1 k hk).fr f1 (by omega), h1, h.c.std.2.2.fr f1 (by omega)⟩, by unfold PasF; rw [f1 _ (by omega)]; exact h.c.pas⟩
      have f2 : MF (B + 88) [7] [7] V1 (vset (vset V1 (B + 88 + 7) S.2.1.length (nI j)) (B + 88) 7 (nI (S.2.1.length + 1))) := (MF.cel (k := 7) (by decide) (by decide)).tr (MF.fld (by decide))
      refine ⟨nI (S.2.1.length + 1), V1, vset (vset V1 (B + 88 + 7) S.2.1.length (nI j)) (B + 88) 7 (nI (S.2.1.length + 1)), ?_, ?_, pad, (S.1, S.2.1 ++ [j], S.2.2), ?_⟩
      · have hs1 := row_size hK.chK h1
        rw [List.length_map, List.length_append] at hs1
        rw [f_X6_chain, cS_k (c_isLayer _ _), hb, show bI true = 1 from rfl, if_neg (by decide), gR_k hK.k hK.p1, gR_k hK.s1.1 hK.ch, cV_k hK.chK.1 hs, if_pos (show nI S.2.1.length < 5 from (nI_ltI (b := 5) (by omega) (by decide)).mpr h5), gR_k hK.k hK.p1, gR_k hK.s1.1 hK.ch, cV_k hK.chK.1 e1, gR_k hK.k hK.p1, gR_k hK.s1.1 hK.ch, cV_k hK.chK.1 hs1]; rfl
      · rw [f_X7_chain, cS_k (m_isLayer _ _), hb, show bI true = 1 from rfl, if_neg (by decide), gI_k hK.mo.1, ms1.2.1.1, if_neg (show ¬ (nI S.2.1.length = 5) from fun z => absurd ((nI_eq (b := 5) (by omega) (by decide)).mp z) (by omega)), gR_k hK.mo.1 hK.mo.p8, gI_k hK.mo.1, ms1.2.1.1, sA_n hK.mo.k8 h5 (by decide), gI_k hK.mo.1, vset_ne (by omega), ms1.2.1.1, nI_1, sI_k hK.mo.1, gI_k hK.mo.1, vset_at]
      · refine Inv.mk2 h.lp h.sp ⟨h.wf.1, ⟨by rw [List.length_append]; simp; omega, fun c hc => ?_⟩, h.wf.2.2⟩ c1 (fun n hn => (h.im n hn).fr hn f1 (by omega)) f2 (by decide) (mp1.mf f2 (by decide) (by decide)) ⟨fun k hk => (ms1.1 k hk).mf f2 (by decide), ⟨?_, ?_⟩, ?_, ms1.2.2.2.keep (f2.at (by decide) (by decide))⟩
        · rcases List.mem_append.mp hc with hc | hc
          · exact hc5.2 c hc
          · simp only [List.mem_cons, List.not_mem_nil, or_false] at hc
            omega
        · show _ = nI (S.2.1 ++ [j]).length
          rw [vset_at, List.length_append]; rfl
        · show ArV _ _ ((S.2.1 ++ [j]).map nI)
          rw [← hmap]
          have := ms1.2.1.2.push (nI j)
          rw [List.length_map] at this
          exact this.keep (vset_ne (by omega))
        · rw [f2.2 9 (by decide)]; exact ms1.2.2.1
    · refine ⟨-4, V, V, ?_, ?_, pad, S, h⟩
      · rw [f_X6_chain, cS_k (c_isLayer _ _), hb, show bI true = 1 from rfl, if_neg (by decide), gR_k hK.k hK.p1, gR_k hK.s1.1 hK.ch, cV_k hK.chK.1 hs, if_neg (show ¬ nI S.2.1.length < 5 from nI_notlt (b := 5) (by omega) (by decide) (by omega))]
      · have : S.2.1.length = 5 := by omega
        rw [f_X7_chain, cS_k (m_isLayer _ _), hb, show bI true = 1 from rfl, if_neg (by decide), gI_k hK.mo.1, h.ms.2.1.1, this, if_pos (show nI 5 = 5 from rfl)]
theorem e_unchain (hK : ClsK K P B) : Eq2 B (fun V => f_X6_unchain K P B V) (fun V => f_X7_unchain K P (B + 88) V) := by
  intro V pad S h
  show ∃ r V1 V2, f_X6_unchain K P B V = _ ∧ f_X7_unchain K P (B + 88) V1 = _ ∧ _
  have hc5 := h.wf.2.1
  have hs := row_size hK.chK h.c.std.2.1
  rw [List.length_map] at hs
  by_cases h0 : S.2.1.length = 0
  · refine ⟨-5, V, V, ?_, ?_, pad, S, h⟩
    · rw [f_X6_unchain, gR_k hK.k hK.p1, gR_k hK.s1.1 hK.ch, cV_k hK.chK.1 hs, h0, if_pos nI_0]
    · rw [f_X7_unchain, gI_k hK.mo.1, h.ms.2.1.1, h0, if_pos nI_0]
  · obtain ⟨V1, e1, h1, f1⟩ := row_dropLast (by decide) hK.chK h.c.std.2.1 (by rw [List.length_map]; omega)
    have hmap : (S.2.1.map nI).dropLast = S.2.1.dropLast.map nI := by rw [List.map_dropLast]
    rw [hmap] at h1
    have hlen : S.2.1.dropLast.length = S.2.1.length - 1 := List.length_dropLast
    have mp1 := h.mp.fr f1 (by omega)
    have ms1 := h.ms.fr f1 (by omega)
    have c1 : CV V1 B pad (S.1, S.2.1.dropLast, S.2.2) := ⟨h.c.pad.fr f1 (by omega), ⟨fun k hk => (h.c.std.1 k hk).fr f1 (by omega), h1, h.c.std.2.2.fr f1 (by omega)⟩, by unfold PasF; rw [f1 _ (by omega)]; exact h.c.pas⟩
    have f2 : MF (B + 88) [] [7] V1 (vset V1 (B + 88) 7 (nI (S.2.1.length - 1))) := MF.fld (by decide)
    refine ⟨nI (S.2.1.length - 1), V1, vset V1 (B + 88) 7 (nI (S.2.1.length - 1)), ?_, ?_, pad, (S.1, S.2.1.dropLast, S.2.2), ?_⟩
    · have hs1 := row_size hK.chK h1
      rw [List.length_map, hlen] at hs1
      rw [f_X6_unchain, gR_k hK.k hK.p1, gR_k hK.s1.1 hK.ch, cV_k hK.chK.1 hs, if_neg (nI_ne0 (by omega) (by omega)), gR_k hK.k hK.p1, gR_k hK.s1.1 hK.ch, cV_k hK.chK.1 e1, gR_k hK.k hK.p1, gR_k hK.s1.1 hK.ch, cV_k hK.chK.1 hs1]
    · rw [f_X7_unchain, gI_k hK.mo.1, ms1.2.1.1, if_neg (nI_ne0 (by omega) (by omega)), gI_k hK.mo.1, ms1.2.1.1, nI_m1 (by omega), sI_k hK.mo.1, gI_k hK.mo.1, vset_at]
    · refine Inv.mk2 h.lp h.sp ⟨h.wf.1, ⟨by show S.2.1.dropLast.length ≤ 5; omega, fun c hc => hc5.2 c (List.dropLast_subset _ hc)⟩, h.wf.2.2⟩ c1 (fun n hn => (h.im n hn).fr hn f1 (by omega)) f2 (by decide) (mp1.mf f2 (by decide) (by decide)) ⟨fun k hk => (ms1.1 k hk).mf f2 (by decide), ⟨?_, ?_⟩, ?_, ms1.2.2.2.keep (f2.at (by decide) (by decide))⟩
      · show _ = nI S.2.1.dropLast.length
        rw [vset_at, hlen]
      · show ArV _ _ (S.2.1.dropLast.map nI)
        intro i y hi
        rw [f2.at (by decide) (by decide)]
        refine ms1.2.1.2 i y ?_
        rw [← hmap, List.getElem?_dropLast] at hi
        split at hi
        · exact hi
        · cases hi
      · rw [f2.2 9 (by decide)]; exact ms1.2.2.1
theorem m_text_loop {M : Nat} {pad : List Int32} (hK : MoK K P M) (h12 : pad.length ≤ 12) :
    ∀ (n k : Nat) (V : VT), 12 - k < n → k ≤ pad.length → PadM V M pad → ArV V (M + 8) (pad.take k) → V M 9 = nI pad.length → ∃ V2, f_X7_text_26 K P n M (nI k) V = some (nI pad.length, V2) ∧ PadM V2 M [] ∧ ArV V2 (M + 8) pad ∧ V2 M 9 = nI pad.length ∧ MF M [8] [0] V V2 := by
  intro n
  induction n with
  | zero => intro k V h; omega
  | succ n ih =>
    intro k V hn hk hp hr h9
    rw [f_X7_text_26, gI_k hK.1, hp.1]
    by_cases h : k < pad.length
    · rw [if_pos ((nI_ltI (by omega) (by omega)).mpr h), gR_k hK.1 hK.p10, gR_k hK.1 hK.p1, aI_n hK.k1 (by omega) (by decide), hp.2.get h (-6), sA_n hK.k10 (by omega) (by decide), nI_1]
      have f1 : MF M [8] [] V (vset V (M + 8) k (pad.getD k (-6))) := MF.cel (by decide) (by decide)
      obtain ⟨V3, e3, h3, h4, h5, f3⟩ := ih (k + 1) _ (by omega) (by omega) (hp.mf f1 (by decide) (by decide)) (hr.next h (-6)) (by rw [vset_ne (by omega)]; exact h9)
      exact ⟨V3, e3, h3, h4, h5, (f1.wd (by decide) (by decide)).tr f3⟩
    · rw [if_neg (fun z => h ((nI_ltI (by omega) (by omega)).mp z)), sI_k hK.1, gI_k hK.1, vset_k (by decide), h9]
      rw [List.take_of_length_le (by omega)] at hr
      exact ⟨_, rfl, ⟨by rw [vset_at]; exact nI_0.symm, ArV.nil⟩, hr.keep (vset_ne (by omega)), by rw [vset_k (by decide)]; exact h9, MF.fld (by decide)⟩
theorem e_text (hK : ClsK K P B) : Eq2 B (fun V => f_X6_text K P B V) (fun V => f_X7_text K P (B + 88) V) := by
  intro V pad S h
  show ∃ r V1 V2, f_X6_text K P B V = _ ∧ f_X7_text K P (B + 88) V1 = _ ∧ _
  have hl := h.lp
  have hs := row_size hK.r0 h.c.pad
  have hin : inB (nI pad.length) 1 12 = decide (1 ≤ pad.length ∧ pad.length ≤ 12) := inB_nI (lo := 1) (hi := 12) (by omega) (by decide) (by decide)
  by_cases h0 : pad.length = 0
  · refine ⟨-5, V, V, ?_, ?_, pad, S, h⟩
    · rw [f_X6_text, gR_k hK.k hK.p0, cV_k hK.r0.1 hs, h0, if_pos nI_0]
    · rw [f_X7_text, gI_k hK.mo.1, h.mp.1, cS_k (m_in _ _ _ _), hin, decide_eq_false (by omega), show bI false = 0 from rfl, if_pos rfl]
  · by_cases h12 : pad.length ≤ 12
    · obtain ⟨V1, e1, h1, f1⟩ := row_copyFrom (V := V) (by decide) hK.txK (by decide) hK.r0 (by omega) h12 h.c.pad (by omega)
      obtain ⟨V2, e2, h2, f2⟩ := row_clear hK.r0 V1
      have h1' := h1.fr f2 (by omega)
      have f12 : Fr (B + 1) (B + 27) V V2 := (f1.wd (by omega) (by omega)).tr (f2.wd (by omega) (by omega))
      have mp2 := h.mp.fr f12 (by omega)
      have ms2 := h.ms.fr f12 (by omega)
      have c2 : CV V2 B [] (S.1, S.2.1, pad) := ⟨h2, ⟨fun k hk => ((h.c.std.1 k hk).fr f1 (by omega)).fr f2 (by omega), (h.c.std.2.1.fr f1 (by omega)).fr f2 (by omega), h1'⟩, by unfold PasF; rw [f12 _ (by omega)]; exact h.c.pas⟩
      have f3 : MF (B + 88) [] [9] V2 (vset V2 (B + 88) 9 (nI pad.length)) := MF.fld (by decide)
      obtain ⟨V3, e3, p3, a3, n3, f4⟩ := m_text_loop hK.mo h12 FU 0 (vset V2 (B + 88) 9 (nI pad.length)) (FU_lt (by omega)) (by omega) (mp2.mf f3 (by decide) (by decide)) (by rw [List.take_zero]; exact ArV.nil) vset_at
      rw [nI_0] at e3
      have cf : MF (B + 88) [8] [0, 9] V2 V3 := (f3.wd (by decide) (by decide)).tr (f4.wd (by decide) (by decide))
      refine ⟨nI pad.length, V2, V3, ?_, ?_, [], (S.1, S.2.1, pad), ?_⟩
      · have : ¬ (12 : Int32) < nI pad.length := nI_notlt (a := 12) (by decide) (by omega) h12
        rw [f_X6_text, gR_k hK.k hK.p0, cV_k hK.r0.1 hs, if_neg (nI_ne0 (by omega) (by omega)), gR_k hK.k hK.p0, cV_k hK.r0.1 hs, if_neg this, gR_k hK.k hK.p1, gR_k hK.s1.1 hK.tx, gR_k hK.k hK.p0, cV_k hK.txK.1 e1, gR_k hK.k hK.p0, cV_k hK.r0.1 e2, gR_k hK.k hK.p1, gR_k hK.s1.1 hK.tx, cV_k hK.txK.1 (row_size hK.txK h1')]
      · rw [f_X7_text, gI_k hK.mo.1, mp2.1, cS_k (m_in _ _ _ _), hin, decide_eq_true (by omega), show bI true = 1 from rfl, if_neg (by decide), gI_k hK.mo.1, mp2.1, sI_k hK.mo.1, e3]
      · exact Inv.mk2 (by simp) (fun x hx => by simp at hx) ⟨h.wf.1, h.wf.2.1, ⟨by show 0 < pad.length; omega, h12⟩, h.sp⟩ c2 (fun n hn => (h.im n hn).fr hn f12 (by omega)) cf (by decide) p3 ⟨fun k hk => (ms2.1 k hk).mf cf (by decide), ⟨by rw [cf.2 7 (by decide)]; exact ms2.2.1.1, ms2.2.1.2.keep (cf.at (by decide) (by decide))⟩, n3, a3⟩
    · refine ⟨-5, V, V, ?_, ?_, pad, S, h⟩
      · rw [f_X6_text, gR_k hK.k hK.p0, cV_k hK.r0.1 hs, if_neg (nI_ne0 (by omega) (by omega)), gR_k hK.k hK.p0, cV_k hK.r0.1 hs, if_pos (show (12 : Int32) < nI pad.length from (nI_ltI (a := 12) (by decide) (by omega)).mpr (by omega))]
      · rw [f_X7_text, gI_k hK.mo.1, h.mp.1, cS_k (m_in _ _ _ _), hin, decide_eq_false (by omega), show bI false = 0 from rfl, if_pos rfl]
end ACT2
