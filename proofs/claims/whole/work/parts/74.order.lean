/-! PURE PART, 25: the shortest order -/
section ORDE
variable {K : KT} {P : PT} {B : Nat} {V : VT} {pad : List Int32} {S : StT} {M : Nat}
theorem m_o126 (hK : MoK K P M) {l : List Int32} {n0 : Nat} (hl : l.length = n0) (hn5 : n0 ≤ 5) (k48 : Nat → Int32 → Int32 → Int32 → VT → Option (Int32 × VT)) (x l2 : Int32) :
    ∀ (n i : Nat) (V : VT), n0 - i < n → i ≤ n0 → V M 7 = nI n0 → ArV V (M + 12) l → ArV V (M + 13) (l.take i) → ∃ V2, f_X7_order_126 K P k48 n M x l2 (nI i) V = f_X7_order_155 K P k48 M x l2 V2 ∧ ArV V2 (M + 13) l ∧ MF M [13] [] V V2 := by
  intro n
  induction n with
  | zero => intro i V h; omega
  | succ n ih =>
    intro i V hn hi h7 hp hb
    rw [f_X7_order_126, gI_k hK.1, h7]
    by_cases hlt : i < n0
    · have f1 : MF M [13] [] V (vset V (M + 13) i (l.getD i (-6))) := MF.cel (by decide) (by decide)
      obtain ⟨V2, e2, h2, f2⟩ := ih (i + 1) _ (by omega) (by omega) (by rw [vset_ne (by omega)]; exact h7) (hp.keep (vset_ne (by omega))) (hb.next (by omega) (-6))
      refine ⟨V2, ?_, h2, f1.tr f2⟩
      rw [if_pos ((nI_ltI (by omega) (by omega)).mpr hlt), gR_k hK.1 hK.p18, gR_k hK.1 hK.p17, aI_n hK.k17 (by omega) (by decide), hp.get (by omega) (-6), sA_n hK.k18 (by omega) (by decide), nI_1, e2]
    · rw [if_neg (fun z => hlt ((nI_ltI (by omega) (by omega)).mp z))]
      rw [List.take_of_length_le (by omega)] at hb
      exact ⟨V, rfl, hb, MF.rf⟩
theorem OS.mf {V V2 V0 : VT} {A J : List Nat} {l : List Int32} {b : Option (Nat × List Int32)} (h : OS V V0 M S l b) (hf : MF M A J V V2) (hA : ∀ k ∈ [2, 3, 4, 5, 6, 8, 12, 13, 14], k ∉ A) (hJ : ∀ k ∈ [7, 9], k ∉ J) : OS V2 V0 M S l b :=
  ⟨fun i hi => by rw [hf.at (hA 14 (by decide)) (by decide)]; exact h.1 i hi, h.2.1.keep (hf.at (hA 12 (by decide)) (by decide)), h.2.2.1.mf hf (fun k hk => hA k (by revert hk; simp; omega)) hJ, h.2.2.2.keep (hf.at (hA 13 (by decide)) (by decide))⟩
/-- one order tried: on to the next order, with what is the best now -/
theorem m_o1 (hK : MoK K P M) (hw : WfS S) {V0 : VT} (h0 : ArV V0 (M + 7) (S.2.1.map nI)) {l : List Int32} (hl : okL S.2.1.length l = true) {b : Option (Nat × List Int32)} (hb : okB S.2.1.length b) (k48 : Nat → Int32 → Int32 → Int32 → VT → Option (Int32 × VT)) (x : Int32) (h : OS V V0 M S l b) :
    ∃ V2, f_X7_order_55 K P k48 FU M x (oM b) 0 V = f_X7_order_155 K P k48 M x (oM (updO S b l)) V2 ∧ OS V2 V0 M S l (updO S b l) ∧ MF M AO JX V V2 := by
  have h5 := hw.2.1.1
  have h12 := hw.2.2.1
  obtain ⟨o1, o2, o3, o4⟩ := okL_all hl
  obtain ⟨V1, e1, c1, f1⟩ := m_o55 hK hw h0 hl k48 x (oM b) FU 0 V (FU_lt (by omega)) (by omega) h.1 h.2.1 h.2.2.1 (by rw [List.take_zero]; exact ArV.nil)
  rw [nI_0] at e1
  have hO1 := h.mf f1 (by decide) (by decide)
  have hcl := cpm_len (S := S) hl
  have hS1 : MoS V1 M (S.1, cpm S l, S.2.2) := ⟨hO1.2.2.1.1, ⟨by show V1 M 7 = nI (cpm S l).length; rw [hcl]; exact hO1.2.2.1.2.1, c1⟩, hO1.2.2.1.2.2.1, hO1.2.2.1.2.2.2⟩
  have hW1 : WfS (S.1, cpm S l, S.2.2) := ⟨hw.1, ⟨by show (cpm S l).length ≤ 5; omega, cpm_lt hw rfl hl⟩, hw.2.2⟩
  obtain ⟨V2, e2, r2, f2⟩ := m_layText hK (V := V1) hS1 h12.2
  have hS2 := hS1.mf f2 (by decide) (by decide)
  obtain ⟨V3, res, e3, h3, f3⟩ := m_goThrough hK hW1 (Nat.le_refl _) (-6) hS2 r2 (by show S.2.2.length ≤ 400; omega) hw.2.2.2
  rw [List.take_length] at h3
  have hO3 := (hO1.mf f2 (by decide) (by decide)).mf f3 (by decide) (by decide)
  have fx : MF M AO JX V V3 := ((f1.wd (by decide) (by decide)).tr (f2.wd (by decide) (by decide))).tr (f3.wd (by decide) (by decide))
  have hm7 : V2 M 7 = nI (cpm S l).length := hS2.2.1.1
  rw [e1, f_X7_order_55, gI_k hK.1, hO1.2.2.1.2.1, if_neg i32_irr, cV_k hK.1 e2, gI_k hK.1, hm7, cV_k hK.1 e3]
  have take : ∀ m : Nat, V3 M 11 = nI m → ∃ V4, f_X7_order_118 K P k48 M x V3 = f_X7_order_155 K P k48 M x (nI m) V4 ∧ OS V4 V0 M S l (some (m, l)) ∧ MF M AO JX V V4 := by
    intro m hm
    obtain ⟨V4, e4, b4, f4⟩ := m_o126 hK o2 h5 k48 x (nI m) FU 0 V3 (FU_lt (by omega)) (by omega) hO3.2.2.1.2.1 hO3.2.1 (by rw [List.take_zero]; exact ArV.nil)
    rw [nI_0] at e4
    refine ⟨V4, by rw [f_X7_order_118, gI_k hK.1, hm, e4], ⟨fun i hi => by rw [f4.at (by decide) (by decide)]; exact hO3.1 i hi, hO3.2.1.keep (f4.at (by decide) (by decide)), hO3.2.2.1.mf f4 (by decide) (by decide), b4⟩, fx.tr (f4.wd (by decide) (by decide))⟩
  have hlen : lenL S l = match thruL S.1 (-6) (cpm S l) 0 S.2.2 with | .inl _ => none | .inr o => some o.length := rfl
  have h3' : ThruM V3 M (thruL S.1 (-6) (cpm S l) 0 S.2.2) res := h3
  cases hx : thruL S.1 (-6) (cpm S l) 0 S.2.2 with
  | inl ek =>
    rw [hx] at h3' hlen
    obtain ⟨e, k⟩ := ek
    obtain ⟨rfl, -⟩ := h3'
    have hne : ¬ res = 0 := by rcases (thruL_err _ _ _ _ _ _ _ hx).1 with rfl | rfl <;> decide
    have hu : updO S b l = b := by unfold updO; rw [hlen]
    rw [if_neg hne, hu]
    exact ⟨V3, rfl, hO3, fx⟩
  | inr o =>
    rw [hx] at h3' hlen
    obtain ⟨rfl, hro, hol, -⟩ := h3'
    have hlen' : lenL S l = some o.length := hlen
    rw [if_pos rfl]
    cases b with
    | none =>
      have hu : updO S none l = some (o.length, l) := by unfold updO; rw [hlen']
      rw [if_pos (show oM none < 0 by decide), hu]
      exact take o.length hro.1
    | some p =>
      obtain ⟨m0, l0⟩ := p
      have hb4 : m0 ≤ 400 := hb.1
      rw [if_neg (show ¬ oM (some (m0, l0)) < 0 from nI_pos (by omega)), gI_k hK.1, hro.1]
      by_cases hlt : o.length < m0
      · have hu : updO S (some (m0, l0)) l = some (o.length, l) := by
          unfold updO; rw [hlen']
          show (if o.length < m0 then _ else _) = _
          rw [if_pos hlt]
        rw [if_pos (show nI o.length < oM (some (m0, l0)) from (nI_ltI (by omega) (by omega)).mpr hlt), hu]
        exact take o.length hro.1
      · have hu : updO S (some (m0, l0)) l = some (m0, l0) := by
          unfold updO; rw [hlen']
          show (if o.length < m0 then _ else _) = _
          rw [if_neg hlt]
        rw [if_neg (show ¬ nI o.length < oM (some (m0, l0)) from fun z => hlt ((nI_ltI (by omega) (by omega)).mp z)), hu]
        exact ⟨V3, rfl, hO3, fx⟩
def OE (V V0 : VT) (M : Nat) (S : StT) (b : Option (Nat × List Int32)) : Prop := (∀ i, i < 5 → V (M + 14) i = V0 (M + 7) i) ∧ RS V M S ∧ ArV V (M + 13) (bL b)
theorem m_order_loop (hK : MoK K P M) (hw : WfS S) (hn1 : 1 ≤ S.2.1.length) {V0 : VT} (h0 : ArV V0 (M + 7) (S.2.1.map nI)) (x : Int32) :
    ∀ (q fu : Nat) (V : VT) (l : List Int32) (b : Option (Nat × List Int32)), q + 1 < fu → chk S.2.1.length q l = true → okB S.2.1.length b → OS V V0 M S l b → ∃ V2, f_X7_order_48 K P fu M x (oM b) 1 V = f_X7_order_166 K P FU M x (oM (srt S q l b)) 0 V2 ∧ OE V2 V0 M S (srt S q l b) ∧ okB S.2.1.length (srt S q l b) ∧ MF M AO JX V V2 := by
  intro q
  induction q with
  | zero =>
    intro fu V l b hf hc hb h
    obtain ⟨fu, rfl⟩ : ∃ m, fu = m + 1 + 1 := ⟨fu - 2, by omega⟩
    have ok := chk_ok hc
    obtain ⟨o1, o2, o3, o4⟩ := okL_all ok
    have h5 := hw.2.1.1
    have hfl : (nxO l).2 = false := by
      unfold chk at hc
      have := (Bool.and_eq_true_iff.mp hc).2
      cases z : (nxO l).2 with
      | false => rfl
      | true => rw [z] at this; cases this
    obtain ⟨V1, e1, O1, f1⟩ := m_o1 hK hw h0 ok hb (f_X7_order_48 K P (fu + 1)) x h
    obtain ⟨V2, e2, p2, f2⟩ := m_nextOrder hK (by omega) (by omega) (by rw [o2]; exact o4) (by rw [o2]; exact O1.2.2.1.2.1) O1.2.1
    rw [hfl, show bI false = 0 from rfl] at e2
    refine ⟨V2, ?_, ⟨fun i hi => by rw [f2.at (by decide) (by decide)]; exact O1.1 i hi, O1.2.2.1.mf f2 (by decide) (by decide), O1.2.2.2.keep (f2.at (by decide) (by decide))⟩, okB_upd hw rfl ok hb, f1.tr (f2.wd (by decide) (by decide))⟩
    rw [f_X7_order_48, if_neg (by decide), e1, f_X7_order_155, cV_k hK.1 e2, f_X7_order_48, if_pos rfl]; rfl
  | succ q ih =>
    intro fu V l b hf hc hb h
    obtain ⟨fu, rfl⟩ : ∃ m, fu = m + 1 := ⟨fu - 1, by omega⟩
    have ok := chk_ok hc
    obtain ⟨o1, o2, o3, o4⟩ := okL_all ok
    have h5 := hw.2.1.1
    have hfl : (nxO l).2 = true ∧ chk S.2.1.length q (nxO l).1 = true := by
      unfold chk at hc
      exact Bool.and_eq_true_iff.mp (Bool.and_eq_true_iff.mp hc).2
    obtain ⟨V1, e1, O1, f1⟩ := m_o1 hK hw h0 ok hb (f_X7_order_48 K P fu) x h
    obtain ⟨V2, e2, p2, f2⟩ := m_nextOrder hK (by omega) (by omega) (by rw [o2]; exact o4) (by rw [o2]; exact O1.2.2.1.2.1) O1.2.1
    rw [hfl.1, show bI true = 1 from rfl] at e2
    obtain ⟨V3, e3, E3, b3, f3⟩ := ih fu V2 (nxO l).1 (updO S b l) (by omega) hfl.2 (okB_upd hw rfl ok hb) ⟨fun i hi => by rw [f2.at (by decide) (by decide)]; exact O1.1 i hi, p2, O1.2.2.1.mf f2 (by decide) (by decide), O1.2.2.2.keep (f2.at (by decide) (by decide))⟩
    refine ⟨V3, ?_, E3, b3, (f1.tr (f2.wd (by decide) (by decide))).tr f3⟩
    rw [f_X7_order_48, if_neg (by decide), e1, f_X7_order_155, cV_k hK.1 e2, e3]; rfl
def ordR (b : Option (Nat × List Int32)) (x : Int32) : Int32 := if x = -1 then oM b else atI (bL b) x
theorem m_order_end (hK : MoK K P M) (hw : WfS S) {V0 : VT} {b : Option (Nat × List Int32)} (hb : okB S.2.1.length b) (x : Int32) :
    ∀ (n i : Nat) (V : VT), 5 - i < n → i ≤ 5 → OE V V0 M S b → (∀ j, j < i → V (M + 7) j = V0 (M + 7) j) → ∃ V2, f_X7_order_166 K P n M x (oM b) (nI i) V = some (ordR b x, V2) ∧ (∀ j, j < 5 → V2 (M + 7) j = V0 (M + 7) j) ∧ MF M [7] [] V V2 := by
  intro n
  induction n with
  | zero => intro i V h; omega
  | succ n ih =>
    intro i V hn hi hE hr
    have h5 := hw.2.1.1
    rw [f_X7_order_166]
    by_cases hlt : i < 5
    · have f1 : MF M [7] [] V (vset V (M + 7) i (V0 (M + 7) i)) := MF.cel (by decide) (by decide)
      obtain ⟨V2, e2, r2, f2⟩ := ih (i + 1) (vset V (M + 7) i (V0 (M + 7) i)) (by omega) (by omega) ⟨fun j hj => by rw [vset_ne (by omega)]; exact hE.1 j hj, hE.2.1.mf f1 (by decide) (by decide), hE.2.2.keep (vset_ne (by omega))⟩ (fun j hj => by
        by_cases hji : j = i
        · rw [hji, vset_at]
        · rw [vset_k hji]; exact hr j (by omega))
      refine ⟨V2, ?_, r2, f1.tr f2⟩
      rw [if_pos (show nI i < 5 from (nI_ltI (b := 5) (by omega) (by decide)).mpr hlt), gR_k hK.1 hK.p8, gR_k hK.1 hK.p19, aI_n hK.k19 (by omega) (by decide), hE.1 i hlt, sA_n hK.k8 (by omega) (by decide), nI_1, e2]
    · have hi5 : i = 5 := by omega
      subst hi5
      rw [if_neg (by decide)]
      refine ⟨V, ?_, hr, MF.rf⟩
      unfold ordR
      cases b with
      | none =>
        rw [if_pos (show oM none < 0 by decide), f_X7_order_201]
        split
        · rfl
        · show some ((-6 : Int32), V) = some (atI [] x, V)
          have : atI [] x = -6 := by unfold atI; split <;> rfl
          rw [this]
      | some p =>
        obtain ⟨m, l⟩ := p
        have hm4 : m ≤ 400 := hb.1
        have hll : l.length = S.2.1.length := hb.2
        rw [if_neg (show ¬ oM (some (m, l)) < 0 from nI_pos (by omega))]
        by_cases hx : x = -1
        · rw [if_pos hx, if_pos hx, f_X7_order_201]
        · rw [if_neg hx, if_neg hx, gI_k hK.1, hE.2.1.2.1, cS_k (m_in _ _ _ _)]
          show _ = some (atI l x, V)
          rw [← hll]
          rcases in_place (n := l.length) (by omega) x with ⟨j, hj, rfl, hbb⟩ | ⟨hbb, hx2⟩
          · rw [hbb, show bI true = 1 from rfl, if_neg (by decide), gR_k hK.1 hK.p18, aI_n hK.k18 (by omega) (by decide), hE.2.2.get hj (-6), atI_n l (by omega)]; rfl
          · rw [hbb, show bI false = 0 from rfl, if_pos rfl, atI_out hx2]
theorem m_order_2 (hK : MoK K P M) {V0 : VT} (x : Int32) :
    ∀ (n i : Nat) (V : VT), 5 - i < n → i ≤ 5 → V (M + 7) = V0 (M + 7) → RS V M S → (∀ j, j < i → V (M + 14) j = V0 (M + 7) j ∧ V (M + 12) j = nI j) → ∃ V2, f_X7_order_2 K P n M x (nI i) V = (if 0 < nI S.2.1.length then f_X7_order_47 K P M x (-6) 1 V2 else f_X7_order_47 K P M x (-6) 0 V2) ∧ (∀ j, j < 5 → V2 (M + 14) j = V0 (M + 7) j ∧ V2 (M + 12) j = nI j) ∧ RS V2 M S ∧ MF M [12, 14] [] V V2 := by
  intro n
  induction n with
  | zero => intro i V h; omega
  | succ n ih =>
    intro i V hn hi h7 hR hr
    rw [f_X7_order_2]
    by_cases hlt : i < 5
    · have f1 : MF M [12, 14] [] V (vset (vset V (M + 12) i (nI i)) (M + 14) i (V0 (M + 7) i)) := (MF.cel (k := 12) (by decide) (by decide)).tr (MF.cel (k := 14) (by decide) (by decide))
      obtain ⟨V2, e2, r2, R2, f2⟩ := ih (i + 1) _ (by omega) (by omega) (by rw [f1.at (by decide) (by decide)]; exact h7) (hR.mf f1 (by decide) (by decide)) (fun j hj => by
        by_cases hji : j = i
        · subst hji
          exact ⟨vset_at, by rw [vset_ne (by omega), vset_at]⟩
        · have := hr j (by omega)
          exact ⟨by rw [vset_k hji, vset_ne (by omega)]; exact this.1, by rw [vset_ne (by omega), vset_k hji]; exact this.2⟩)
      refine ⟨V2, ?_, r2, R2, f1.tr f2⟩
      rw [if_pos (show nI i < 5 from (nI_ltI (b := 5) (by omega) (by decide)).mpr hlt), gR_k hK.1 hK.p17, sA_n hK.k17 (by omega) (by decide), gR_k hK.1 hK.p19, gR_k hK.1 hK.p8, aI_n hK.k8 (by omega) (by decide), vset_ne (by omega), h7, sA_n hK.k19 (by omega) (by decide), nI_1, e2]
    · have hi5 : i = 5 := by omega
      subst hi5
      rw [if_neg (by decide), gI_k hK.1, hR.2.1]
      exact ⟨V, rfl, hr, hR, MF.rf⟩
theorem m_order (hK : MoK K P M) (hw : WfS S) (hS : MoS V M S) (x : Int32) :
    ∃ b V2, (if S.2.1.length = 0 then b = none else ∃ q, q < 120 ∧ chk S.2.1.length q ((List.range S.2.1.length).map nI) = true ∧ b = srt S q ((List.range S.2.1.length).map nI) none) ∧ f_X7_order K P M x V = some (ordR b x, V2) ∧ MoS V2 M S ∧ MF M AO JX V V2 := by
  have h5 := hw.2.1.1
  have hR : RS V M S := ⟨hS.1, hS.2.1.1, hS.2.2.1, hS.2.2.2⟩
  obtain ⟨V1, e1, r1, R1, f1⟩ := m_order_2 hK (V0 := V) x FU 0 V (FU_lt (by omega)) (by omega) rfl hR (fun j hj => by omega)
  rw [nI_0] at e1
  have back : ∀ V3 V4, RS V3 M S → (∀ j, j < 5 → V4 (M + 7) j = V (M + 7) j) → MF M [7] [] V3 V4 → MoS V4 M S := by
    intro V3 V4 hR3 h7 f4
    have hR4 := hR3.mf f4 (by decide) (by decide)
    refine ⟨hR4.1, ⟨hR4.2.1, fun i y hi => ?_⟩, hR4.2.2.1, hR4.2.2.2⟩
    have hil := (List.getElem?_eq_some_iff.mp hi).1
    rw [List.length_map] at hil
    rw [h7 i (by omega)]; exact hS.2.1.2 i y hi
  by_cases hn : S.2.1.length = 0
  · rw [hn, nI_0, if_neg (by decide)] at e1
    have hfu : FU = (FU - 1) + 1 := by unfold FU; omega
    obtain ⟨V2, e2, r2, f2⟩ := m_order_end hK hw (V0 := V) (b := none) trivial x FU 0 V1 (FU_lt (by omega)) (by omega) ⟨fun i hi => (r1 i hi).1, R1, ArV.nil⟩ (fun j hj => by omega)
    rw [nI_0] at e2
    refine ⟨none, V2, by rw [if_pos hn], ?_, back V1 V2 R1 r2 f2, (f1.wd (by decide) (by decide)).tr (f2.wd (by decide) (by decide))⟩
    rw [f_X7_order, e1, f_X7_order_47, hfu, f_X7_order_48, if_pos rfl]
    exact e2
  · obtain ⟨q, hq, hc⟩ := chk_ex (n := S.2.1.length) (by omega) h5
    have hp : ArV V1 (M + 12) ((List.range S.2.1.length).map nI) := by
      intro i y hi
      have hil := (List.getElem?_eq_some_iff.mp hi).1
      rw [List.length_map, List.length_range] at hil
      rw [List.getElem?_map, List.getElem?_range hil] at hi
      cases hi
      exact (r1 i (by omega)).2
    obtain ⟨V2, e2, E2, b2, f2⟩ := m_order_loop hK hw (by omega) hS.2.1.2 x q FU V1 ((List.range S.2.1.length).map nI) none (FU_lt (by omega)) hc trivial ⟨fun i hi => (r1 i hi).1, hp, R1, ArV.nil⟩
    obtain ⟨V3, e3, r3, f3⟩ := m_order_end hK hw (V0 := V) b2 x FU 0 V2 (FU_lt (by omega)) (by omega) E2 (fun j hj => by omega)
    rw [nI_0] at e3
    refine ⟨_, V3, by rw [if_neg hn]; exact ⟨q, hq, hc, rfl⟩, ?_, back V2 V3 E2.2.1 r3 f3, ((f1.wd (by decide) (by decide)).tr f2).tr (f3.wd (by decide) (by decide))⟩
    have hpos : (0 : Int32) < nI S.2.1.length := by rw [← nI_0]; exact (nI_ltI (by decide) (by omega)).mpr (by omega)
    rw [if_pos hpos] at e1
    rw [f_X7_order, e1, f_X7_order_47]
    exact e2.trans e3
/-! the class's start -/
theorem c_order_19 (hK : ClsK K P B) (hw : WfS S) :
    ∀ (n i : Nat) (V : VT), S.2.1.length - i < n → i ≤ S.2.1.length → CV V B pad S → RowV V (B + 84) 5 ((List.range i).map nI) 0 → ∃ V2, f_X6_findShortestOrder_19 K P n B (-6) (nI i) V = (if 0 < nI S.2.1.length then f_X6_findShortestOrder_62 K P B (-6) 1 V2 else f_X6_findShortestOrder_62 K P B (-6) 0 V2) ∧ RowV V2 (B + 84) 5 ((List.range S.2.1.length).map nI) 0 ∧ Fr (B + 84) (B + 86) V V2 := by
  intro n
  induction n with
  | zero => intro i V h; omega
  | succ n ih =>
    intro i V hn hi h hd
    have h5 := hw.2.1.1
    have hsc := row_size hK.chK h.std.2.1
    rw [List.length_map] at hsc
    rw [f_X6_findShortestOrder_19, gR_k hK.k hK.p1, gR_k hK.s1.1 hK.ch, cV_k hK.chK.1 hsc]
    by_cases hlt : i < S.2.1.length
    · obtain ⟨V1, e1, h1, f1⟩ := row_add (by decide) hK.r7 hd (by rw [List.length_map, List.length_range]; omega) (nI i)
      have hm : (List.range i).map nI ++ [nI i] = (List.range (i + 1)).map nI := by
        rw [List.range_succ, List.map_append]; rfl
      rw [hm] at h1
      have q1 : CQ B V V1 := CQ.of h.pas f1 (by omega) (by omega)
      obtain ⟨V2, e2, h2, f2⟩ := ih (i + 1) V1 (by omega) (by omega) (h.q q1) h1
      refine ⟨V2, ?_, h2, f1.tr f2⟩
      rw [if_pos ((nI_ltI (by omega) (by omega)).mpr hlt), gR_k hK.k hK.p7, cV_k hK.r7.1 e1, nI_1, e2]
    · have hie : i = S.2.1.length := by omega
      subst hie
      have hsd := row_size hK.r7 hd
      rw [List.length_map, List.length_range] at hsd
      rw [if_neg i32_irr, gR_k hK.k hK.p7, cV_k hK.r7.1 hsd]
      exact ⟨V, rfl, hd, Fr.rf⟩
theorem c_order (hK : ClsK K P B) (hw : WfS S) (h : CV V B pad S) (x : Int32) {b : Option (Nat × List Int32)} (hb : if S.2.1.length = 0 then b = none else ∃ q, q < 120 ∧ chk S.2.1.length q ((List.range S.2.1.length).map nI) = true ∧ b = srt S q ((List.range S.2.1.length).map nI) none) :
    ∃ V2, f_X6_order K P B x V = some (ordR b x, V2) ∧ CQ B V V2 := by
  have h5 := hw.2.1.1
  obtain ⟨V1, e1, h1, f1⟩ := row_clear hK.r8 V
  obtain ⟨V2, e2, h2, f2⟩ := row_clear hK.r7 V1
  have q1 : CQ B V V1 := CQ.of h.pas f1 (by omega) (by omega)
  have q2 : CQ B V1 V2 := CQ.of (h.q q1).pas f2 (by omega) (by omega)
  have hV2 := (h.q q1).q q2
  obtain ⟨V3, e3, h3, f3⟩ := c_order_19 hK hw FU 0 V2 (FU_lt (by omega)) (by omega) hV2 (by simpa using h2)
  rw [nI_0] at e3
  have q3 : CQ B V2 V3 := CQ.of hV2.pas f3 (by omega) (by omega)
  have hV3 := hV2.q q3
  have hs3 : RowV V3 (B + 86) 5 (bL none) 0 := (h1.fr f2 (by omega)).fr f3 (by omega)
  have find : ∃ V4 ob, f_X6_findShortestOrder K P B V = some (oM b, V4) ∧ RowV V4 (B + 86) 5 (bL b) ob ∧ CQ B V3 V4 := by
    have start : f_X6_findShortestOrder K P B V = (if 0 < nI S.2.1.length then f_X6_findShortestOrder_62 K P B (-6) 1 V3 else f_X6_findShortestOrder_62 K P B (-6) 0 V3) := by
      rw [f_X6_findShortestOrder, gR_k hK.k hK.p8, cV_k hK.r8.1 e1, gR_k hK.k hK.p7, cV_k hK.r7.1 e2, e3]
    rw [start]
    by_cases hn : S.2.1.length = 0
    · rw [if_pos hn] at hb
      subst hb
      have hfu : FU = (FU - 1) + 1 := by unfold FU; omega
      rw [hn, nI_0, if_neg (by decide), f_X6_findShortestOrder_62, hfu, f_X6_findShortestOrder_65, if_pos rfl]
      exact ⟨V3, 0, rfl, hs3, CQ.rf hV3.pas⟩
    · rw [if_neg hn] at hb
      obtain ⟨q, hq, hc, rfl⟩ := hb
      have hpos : (0 : Int32) < nI S.2.1.length := by rw [← nI_0]; exact (nI_ltI (by decide) (by omega)).mpr (by omega)
      rw [if_pos hpos, f_X6_findShortestOrder_62]
      have := c_order_loop hK hw rfl (by omega) q 0 FU V3 ((List.range S.2.1.length).map nI) none 0 0 (FU_lt (by omega)) (by omega) hc trivial hV3 h3 hs3
      rw [nI_0] at this
      exact this
  obtain ⟨V4, ob, e4, h4, q4⟩ := find
  refine ⟨V4, ?_, ((q1.tr q2).tr q3).tr q4⟩
  unfold ordR
  rw [f_X6_order, cV_k hK.k e4]
  by_cases hx : x = -1
  · rw [if_pos hx, if_pos hx]
  · rw [if_neg hx, if_neg hx, gR_k hK.k hK.p8, cV_k hK.r8.1 (row_at (by decide) hK.r8 h4 x)]
theorem e_order (hK : ClsK K P B) (x : Int32) : Eq2 B (fun V => f_X6_order K P B x V) (fun V => f_X7_order K P (B + 88) x V) := by
  intro V pad S h
  show ∃ r V1 V2, f_X6_order K P B x V = _ ∧ f_X7_order K P (B + 88) x V1 = _ ∧ _
  obtain ⟨b, -, hb, -, -, -⟩ := m_order hK.mo h.wf h.ms x
  obtain ⟨V1, e1, q1⟩ := c_order hK h.wf h.c x hb
  have hV1 := h.q q1
  obtain ⟨b2, V2, hb2, e2, hS2, f2⟩ := m_order hK.mo h.wf hV1.ms x
  obtain ⟨V1', e1', -⟩ := c_order hK h.wf h.c x hb2
  have hr : ordR b x = ordR b2 x := by
    rw [e1] at e1'
    exact (Prod.mk.inj (Option.some.inj e1')).1
  refine ⟨ordR b x, V1, V2, e1, by rw [hr]; exact e2, pad, S, Inv.mk2 h.lp h.sp h.wf hV1.c hV1.im f2 (by decide) (hV1.mp.mf f2 (by decide) (by decide)) hS2⟩
end ORDE
