/-! PURE PART, 7: the reference puts; through a chain -/
section MO2
variable {K : KT} {P : PT} {V : VT} {M i : Nat} {y : LayT}
theorem enc1_len (y : LayT) (s : Int32) : (enc1 y s).length ≤ 3 := by
  unfold enc1
  split
  · simp
  · split <;> simp
theorem m_put_loop (hK : MoK K P M) (hi : i < 5) (hw : wfL y) {t : List Int32} (ht : t.length ≤ 400) (hs : SgL t) (fg : Bool) :
    ∀ (n k : Nat) (V : VT) (out : List Int32), t.length - k < n → k ≤ t.length → out.length ≤ 1 + 3 * k → MLay V M i y → RowM V M t → ArV V (M + 10) out →
      ∃ V2 res, f_X7_put_28 K P n M (nI i) (bI fg) (nI out.length) (nI k) V = some (res, V2) ∧ PutM V2 M ((encT y fg (t.drop k)).map (fun b => out ++ b ++ mkL y)) res ∧ MF M AW JP V V2 := by
  intro n
  induction n with
  | zero => intro k V out h; omega
  | succ n ih =>
    intro k V out hn hk ho hV hr ha
    rw [f_X7_put_28, gI_k hK.1, hr.1]
    by_cases h : k < t.length
    · rw [if_pos ((nI_ltI (by omega) (by omega)).mpr h), gR_k hK.1 hK.p12, aI_n hK.k12 (by omega) (by decide), hr.2.get h (-6), drop_next h (-6)]
      have hsg : isSg (t.getD k (-6)) = true := by
        rw [List.getD_eq_getElem?_getD, List.getElem?_eq_getElem h]; exact hs _ (List.getElem_mem h)
      generalize t.getD k (-6) = s at hsg ⊢
      -- behind what stands for s
      have fin : ∀ (e : List Int32) (V3 : VT) (cnt : Int32), cnt = nI (out ++ e).length → e.length ≤ 3 → MF M [10] [] V V3 → ArV V3 (M + 10) (out ++ e) → ∃ V2 res, f_X7_put_181 K P (f_X7_put_28 K P n) M (nI i) (bI fg) cnt (nI k) V3 = some (res, V2) ∧ PutM V2 M (((encT y fg (t.drop (k + 1))).map (e ++ ·)).map (fun b => out ++ b ++ mkL y)) res ∧ MF M AW JP V V2 := by
        intro e V3 cnt hc he f3 a3
        rw [f_X7_put_181, nI_1, hc]
        obtain ⟨V2, res, e2, h2, f2⟩ := ih (k + 1) V3 (out ++ e) (by omega) (by omega) (by rw [List.length_append]; omega) (hV.mf f3 (by decide)) (hr.mf f3 (by decide) (by decide)) a3
        refine ⟨V2, res, e2, ?_, (f3.wd (by decide) (by decide)).tr f2⟩
        rw [Option.map_map]
        have : ((fun b => out ++ b ++ mkL y) ∘ fun x => e ++ x) = fun b => out ++ e ++ b ++ mkL y := by
          funext b; simp
        rw [this]; exact h2
      have f1 : ∀ x : Int32, MF M [10] [] V (vset V (M + 10) out.length x) := fun x => MF.cel (by decide) (by decide)
      have plain : ∃ V2 res, f_X7_put_64 K P (f_X7_put_28 K P n) M (nI i) (bI fg) (nI out.length) (nI k) s V = some (res, V2) ∧ PutM V2 M (((encT y fg (t.drop (k + 1))).map (s :: ·)).map (fun b => out ++ b ++ mkL y)) res ∧ MF M AW JP V V2 := by
        rw [f_X7_put_64, f_X7_put_65, if_pos rfl, f_X7_put_84, if_pos rfl, f_X7_put_119, if_pos rfl, f_X7_put_170, gR_k hK.1 hK.p13, sA_n hK.k13 (by omega) (by decide), nI_1]
        exact fin [s] _ _ (by rw [List.length_append]; rfl) (by simp) (f1 s) (ha.push s)
      unfold encT
      cases fg with
      | true => rw [show bI true = 1 from rfl, if_neg (by decide), if_neg (by simp)]; exact plain
      | false =>
        rw [show bI false = 0 from rfl, if_pos rfl, cV_k hK.1 (m_isMasked hK hi hw hV (sg_ne6 hsg))]
        cases hm : msk y s with
        | false => rw [show bI false = 0 from rfl, if_pos rfl, if_neg (by decide)]; exact plain
        | true =>
          rw [if_neg (by decide), if_pos (by decide), f_X7_put_65, if_neg (by decide), gR_k hK.1 hK.p3, aI_n hK.k3 hi (by decide), hV.2.1]
          by_cases hw0 : y.2.1 = 0
          · rw [if_pos hw0, if_pos hw0]; exact ⟨V, -5, rfl, rfl, MF.rf⟩
          · rw [if_neg hw0, if_neg hw0, f_X7_put_84, if_neg (by decide), gR_k hK.1 hK.p13, gR_k hK.1 hK.p3, aI_n hK.k3 hi (by decide), hV.2.1]
            have k12 : ∀ x : Int32, y.2.1 ≠ 3 → enc1 y s = [x, s] → ∃ V2 res, f_X7_put_115 K P (f_X7_put_28 K P n) M (nI i) 0 (nI out.length) (nI k) s 1 (M + 10) (nI out.length) x V = some (res, V2) ∧ PutM V2 M (((encT y false (t.drop (k + 1))).map (enc1 y s ++ ·)).map (fun b => out ++ b ++ mkL y)) res ∧ MF M AW JP V V2 := by
              intro x h3 hx
              have hV1 := hV.mf (f1 x) (by decide)
              have a1 := ha.push x
              have a2 := a1.push s
              rw [List.length_append, show [x].length = 1 from rfl] at a2
              rw [f_X7_put_115, sA_n hK.k13 (by omega) (by decide), nI_1, f_X7_put_119, if_neg (by decide), gR_k hK.1 hK.p3, aI_n hK.k3 hi (by decide), hV1.2.1, if_neg h3, f_X7_put_170, gR_k hK.1 hK.p13, sA_n hK.k13 (by omega) (by decide), nI_1]
              refine fin (enc1 y s) _ _ (by rw [hx, List.length_append]; rfl) (enc1_len y s) ((f1 x).tr (MF.cel (by decide) (by decide))) ?_
              rw [hx]
              rw [List.append_assoc] at a2
              exact a2
            have k3 : y.2.1 = 3 → ∃ V2 res, f_X7_put_115 K P (f_X7_put_28 K P n) M (nI i) 0 (nI out.length) (nI k) s 1 (M + 10) (nI out.length) y.2.2.1 V = some (res, V2) ∧ PutM V2 M (((encT y false (t.drop (k + 1))).map (enc1 y s ++ ·)).map (fun b => out ++ b ++ mkL y)) res ∧ MF M AW JP V V2 := by
              intro h3
              have hV1 := hV.mf (f1 y.2.2.1) (by decide)
              obtain ⟨d1, d2, -, -⟩ := sg_div hsg
              have a1 := ha.push y.2.2.1
              have a2 := a1.push (dgt (s >>> ((4 : Int32) &&& 31)))
              have a3 := a2.push (dgt (s &&& 15))
              rw [List.length_append, show [y.2.2.1].length = 1 from rfl] at a2
              simp only [List.length_append, List.length_singleton] at a3
              have hx : enc1 y s = [y.2.2.1, dgt (s >>> ((4 : Int32) &&& 31)), dgt (s &&& 15)] := by unfold enc1; rw [if_pos h3]
              rw [f_X7_put_115, sA_n hK.k13 (by omega) (by decide), nI_1, f_X7_put_119, if_neg (by decide), gR_k hK.1 hK.p3, aI_n hK.k3 hi (by decide), hV1.2.1, if_pos h3, gR_k hK.1 hK.p13, dG_k (by decide), cS_k (m_digit _ _), d1, sA_n hK.k13 (by omega) (by decide), gR_k hK.1 hK.p13, dG_k (by decide), ← d1, d2, cS_k (m_digit _ _), d1, nI_1, sA_n hK.k13 (by omega) (by decide), show (2 : Int32) = nI 2 from rfl, nI_add]
              refine fin (enc1 y s) _ _ (by rw [hx, List.length_append]; rfl) (enc1_len y s) (((f1 y.2.2.1).tr (MF.cel (by decide) (by decide))).tr (MF.cel (by decide) (by decide))) ?_
              rw [hx]
              rw [List.append_assoc, List.append_assoc] at a3
              exact a3
            by_cases h2 : y.2.1 = 2
            · rw [if_pos h2]
              refine k12 s (by rw [h2]; decide) ?_
              have hs1 : s = y.1 := by
                have hk6 : y.2.2.1 = -6 := hw.2.2.2.2.2 (by rw [h2]; decide)
                unfold msk at hm
                rw [hk6, (hw.2.2.2.1 h2).2, decide_eq_false (sg_ne6 hsg)] at hm
                simpa using hm
              unfold enc1
              rw [if_neg (by rw [h2]; decide), if_neg (by rw [h2]; decide), ← hs1]
            · rw [if_neg h2, gR_k hK.1 hK.p4, aI_n hK.k4 hi (by decide), hV.2.2.1]
              by_cases h3 : y.2.1 = 3
              · exact k3 h3
              · have h1 : y.2.1 = 1 := by rcases hw.2.2.1 with z | z | z | z; exact absurd z hw0; exact z; exact absurd z h2; exact absurd z h3
                refine k12 y.2.2.1 h3 ?_
                unfold enc1
                rw [if_neg h3, if_pos h1]
    · rw [if_neg (fun z => h ((nI_ltI (by omega) (by omega)).mp z)), List.drop_eq_nil_of_le (by omega), cV_k hK.1 (m_hasMark hK hi hw hV)]
      have hx : (encT y fg []).map (fun b => out ++ b ++ mkL y) = some (out ++ mkL y) := by simp [encT]
      rw [hx]
      unfold mkL
      by_cases h6 : y.1 = -6
      · rw [decide_eq_false (fun z => z h6), show bI false = 0 from rfl, if_pos rfl, if_pos h6, List.append_nil]
        exact m_put_210 hK (by omega) ha
      · rw [decide_eq_true h6, show bI true = 1 from rfl, if_neg (by decide), if_neg h6, gR_k hK.1 hK.p13, gR_k hK.1 hK.p2, aI_n hK.k2 hi (by decide), hV.1, sA_n hK.k13 (by omega) (by decide), nI_1]
        have hmk : mkM y = y.1 := by unfold mkM; rw [if_neg h6]
        rw [hmk]
        have f1 : MF M AW JP V (vset V (M + 10) out.length y.1) := MF.cel (by decide) (by decide)
        obtain ⟨V2, res, e2, h2, f2⟩ := m_put_210 (out := out ++ [y.1]) hK (by rw [List.length_append]; simp; omega) (ha.push y.1)
        rw [List.length_append] at e2
        exact ⟨V2, res, e2, h2, f1.tr f2⟩
theorem m_put (hK : MoK K P M) (hi : i < 5) (hw : wfL y) {t : List Int32} (ht : t.length ≤ 400) (hs : SgL t) (fg : Bool) (hV : MLay V M i y) (hr : RowM V M t) :
    ∃ V2 res, f_X7_put K P M (nI i) (bI fg) V = some (res, V2) ∧ PutM V2 M (putL y fg t) res ∧ MF M AW JP V V2 := by
  rw [f_X7_put, cV_k hK.1 (m_hasMark hK hi hw hV)]
  unfold putL mkL
  by_cases h6 : y.1 = -6
  · rw [decide_eq_false (fun z => z h6), show bI false = 0 from rfl, if_pos rfl, f_X7_put_25, if_pos h6]
    obtain ⟨V2, res, e2, h2, f2⟩ := m_put_loop hK hi hw ht hs fg FU 0 V [] (FU_lt (by omega)) (by omega) (by simp) hV hr ArV.nil
    rw [List.length_nil, nI_0] at e2
    rw [List.drop_zero] at h2
    unfold mkL at h2
    rw [if_pos h6] at h2
    exact ⟨V2, res, e2, h2, f2⟩
  · rw [decide_eq_true h6, show bI true = 1 from rfl, if_neg (by decide), if_neg h6, gR_k hK.1 hK.p13, gR_k hK.1 hK.p2, aI_n hK.k2 hi (by decide), hV.1, show (0 : Int32) = nI 0 from nI_0.symm, sA_n hK.k13 (by omega) (by decide), nI_1, f_X7_put_25]
    have hmk : mkM y = y.1 := by unfold mkM; rw [if_neg h6]
    rw [hmk]
    have f1 : MF M [10] [] V (vset V (M + 10) 0 y.1) := MF.cel (by decide) (by decide)
    obtain ⟨V2, res, e2, h2, f2⟩ := m_put_loop hK hi hw ht hs fg FU 0 (vset V (M + 10) 0 y.1) [y.1] (FU_lt (by omega)) (by omega) (by simp) (hV.mf f1 (by decide)) (hr.mf f1 (by decide) (by decide)) (ArV.nil.push y.1)
    rw [List.drop_zero] at h2
    unfold mkL at h2
    rw [if_neg h6] at h2
    rw [nI_0] at e2
    exact ⟨V2, res, e2, h2, (f1.wd (by decide) (by decide)).tr f2⟩
/-! laying a row of signs -/
theorem m_layText_loop (hK : MoK K P M) {S : StT} (hS : MoS V M S) (hl : S.2.2.length ≤ 12) :
    ∀ (n k : Nat) (V2 : VT), 12 - k < n → k ≤ S.2.2.length → MoS V2 M S → ArV V2 (M + 9) (S.2.2.take k) → V2 M 11 = nI S.2.2.length → ∃ V3, f_X7_layText_10 K P n M (nI k) V2 = some ((), V3) ∧ RowM V3 M S.2.2 ∧ MF M AW JP V2 V3 := by
  intro n
  induction n with
  | zero => intro k V2 h; omega
  | succ n ih =>
    intro k V2 hn hk hS2 hr h11
    rw [f_X7_layText_10, gI_k hK.1, hS2.2.2.1]
    by_cases h : k < S.2.2.length
    · rw [if_pos ((nI_ltI (by omega) (by omega)).mpr h), gR_k hK.1 hK.p12, gR_k hK.1 hK.p10, aI_n hK.k10 (by omega) (by decide), sA_n hK.k12 (by omega) (by decide), nI_1, hS2.2.2.2.get h (-6)]
      have f1 : MF M [9] [] V2 (vset V2 (M + 9) k (S.2.2.getD k (-6))) := MF.cel (by decide) (by decide)
      obtain ⟨V3, e3, h3, f3⟩ := ih (k + 1) _ (by omega) (by omega) (hS2.mf f1 (by decide) (by decide)) (hr.next h (-6)) (by rw [vset_ne (by omega)]; exact h11)
      exact ⟨V3, e3, h3, (f1.wd (by decide) (by decide)).tr f3⟩
    · rw [if_neg (fun z => h ((nI_ltI (by omega) (by omega)).mp z))]
      rw [List.take_of_length_le (by omega)] at hr
      exact ⟨V2, rfl, ⟨h11, hr⟩, MF.rf⟩
theorem m_layText (hK : MoK K P M) {S : StT} (hS : MoS V M S) (hl : S.2.2.length ≤ 12) : ∃ V3, f_X7_layText K P M V = some ((), V3) ∧ RowM V3 M S.2.2 ∧ MF M AW JP V V3 := by
  have f1 : MF M [] [11] V (vset V M 11 (nI S.2.2.length)) := MF.fld (by decide)
  obtain ⟨V3, e3, h3, f3⟩ := m_layText_loop hK hS hl FU 0 (vset V M 11 (nI S.2.2.length)) (FU_lt (by omega)) (by omega) (hS.mf f1 (by decide) (by decide)) (by rw [List.take_zero]; exact ArV.nil) vset_at
  rw [nI_0] at e3
  exact ⟨V3, by rw [f_X7_layText, gI_k hK.1, hS.2.2.1, sI_k hK.1, e3], h3, (f1.wd (by decide) (by decide)).tr f3⟩
/-! through the chain -/
theorem encT_sg {y : LayT} (hw : wfL y) (fg : Bool) : ∀ {t b : List Int32}, SgL t → encT y fg t = some b → SgL b
  | [], b, _, h => by
    unfold encT at h; cases h; intro s hs; simp at hs
  | s :: t, b, ht, h => by
    have hsg := ht s List.mem_cons_self
    have ht' : SgL t := fun x hx => ht x (List.mem_cons_of_mem _ hx)
    unfold encT at h
    split at h
    · rename_i hc
      split at h
      · cases h
      · rename_i hw0
        cases hb : encT y fg t with
        | none => rw [hb] at h; cases h
        | some b' =>
          rw [hb] at h
          cases h
          have ih := encT_sg hw fg ht' hb
          have hen : SgL (enc1 y s) := by
            obtain ⟨-, -, d3, d4⟩ := sg_div hsg
            unfold enc1
            split
            · rename_i h3
              have hm := (hw.2.2.2.2.1 (by rw [h3]; decide)).1
              intro x hx
              simp only [List.mem_cons, List.not_mem_nil, or_false] at hx
              rcases hx with rfl | rfl | rfl
              · exact hm
              · exact d3
              · exact d4
            · rename_i h3
              split
              · rename_i h1
                have hm := (hw.2.2.2.2.1 (by rw [h1]; decide)).1
                intro x hx
                simp only [List.mem_cons, List.not_mem_nil, or_false] at hx
                rcases hx with rfl | rfl
                · exact hm
                · exact hsg
              · rename_i h1
                have h2 : y.2.1 = 2 := by rcases hw.2.2.1 with z | z | z | z; exact absurd z hw0; exact absurd z h1; exact z; exact absurd z h3
                have hm : isSg y.1 = true := by rcases hw.2.1 with z | z; exact absurd z (hw.2.2.2.1 h2).1; exact z.1
                intro x hx
                simp only [List.mem_cons, List.not_mem_nil, or_false] at hx
                rcases hx with rfl | rfl
                · exact hm
                · exact hsg
          intro x hx
          rcases List.mem_append.mp hx with hx | hx
          · exact hen x hx
          · exact ih x hx
    · cases hb : encT y fg t with
      | none => rw [hb] at h; cases h
      | some b' =>
        rw [hb] at h
        cases h
        have ih := encT_sg hw fg ht' hb
        intro x hx
        rcases List.mem_cons.mp hx with rfl | hx
        · exact hsg
        · exact ih x hx
theorem putL_sg {y : LayT} (hw : wfL y) {fg : Bool} {t o : List Int32} (ht : SgL t) (h : putL y fg t = some o) : SgL o := by
  unfold putL at h
  cases hb : encT y fg t with
  | none => rw [hb] at h; cases h
  | some b =>
    rw [hb] at h
    cases h
    have hbs := encT_sg hw fg ht hb
    have hmk : SgL (mkL y) := by
      unfold mkL
      split
      · intro x hx; simp at hx
      · rename_i h6
        intro x hx
        simp only [List.mem_cons, List.not_mem_nil, or_false] at hx
        rw [hx]
        rcases hw.2.1 with z | z
        · exact absurd z h6
        · exact z.1
    intro x hx
    rcases List.mem_append.mp hx with hx | hx
    · rcases List.mem_append.mp hx with hx | hx
      · exact hmk x hx
      · exact hbs x hx
    · exact hmk x hx
def ThruM (V2 : VT) (M : Nat) (x : (Int32 × Nat) ⊕ List Int32) (res : Int32) : Prop := match x with
  | .inl (e, k) => res = e ∧ V2 M 14 = nI k
  | .inr o => res = 0 ∧ RowM V2 M o ∧ o.length ≤ 400 ∧ SgL o
theorem m_thru_loop (hK : MoK K P M) {S : StT} (hW : WfS S) {m : Nat} (hm : m ≤ S.2.1.length) (fg : Int32) :
    ∀ (n k : Nat) (V : VT) (t : List Int32), m - k < n → k ≤ m → MoS V M S → RowM V M t → t.length ≤ 400 → SgL t →
      ∃ V2 res, f_X7_goThrough_2 K P n M (nI m) fg (nI k) V = some (res, V2) ∧ ThruM V2 M (thruL S.1 fg ((S.2.1.take m).drop k) k t) res ∧ MF M AW JW V V2 := by
  intro n
  induction n with
  | zero => intro k V t h; omega
  | succ n ih =>
    intro k V t hn hk hS hr ht hs
    have hc := hW.2.1
    rw [f_X7_goThrough_2]
    by_cases h : k < m
    · have hlt : k < (S.2.1.take m).length := by rw [List.length_take]; omega
      have hg : (S.2.1.take m).getD k 0 = S.2.1.getD k 0 := by
        rw [List.getD_eq_getElem?_getD, List.getD_eq_getElem?_getD, List.getElem?_take, if_pos h]
      have hci : S.2.1.getD k 0 < 5 := by
        rw [List.getD_eq_getElem?_getD, List.getElem?_eq_getElem (show k < S.2.1.length by omega)]; exact hc.2 _ (List.getElem_mem _)
      have f1 : MF M [] [14] V (vset V M 14 (nI k)) := MF.fld (by decide)
      have hS1 := hS.mf f1 (by decide) (by decide)
      have hr1 := hr.mf f1 (by decide) (by decide)
      rw [if_pos ((nI_ltI (by omega) (by omega)).mpr h), sI_k hK.1, gR_k hK.1 hK.p8, aI_n hK.k8 (by omega) (by decide), hS1.2.1.2.get (by rw [List.length_map]; omega) (-6), map_nI_getD (by omega), drop_nextN hlt, hg]
      obtain ⟨V2, x, e2, h2, f2⟩ := m_put hK hci (hW.1 _ hci) ht hs (decide (nI k = fg)) (hS1.1 _ hci) hr1
      have f12 : MF M AW JW V V2 := (f1.wd (by decide) (by decide)).tr (f2.wd (by decide) (by decide))
      have key : ∃ V2 res, f_X7_goThrough_29 K P (f_X7_goThrough_2 K P n) M (nI m) fg (nI k) M (nI (S.2.1.getD k 0)) (bI (decide (nI k = fg))) (vset V M 14 (nI k)) = some (res, V2) ∧ ThruM V2 M (thruL S.1 fg (S.2.1.getD k 0 :: (S.2.1.take m).drop (k + 1)) k t) res ∧ MF M AW JW V V2 := by
        rw [f_X7_goThrough_29, cV_k hK.1 e2]
        unfold thruL
        cases hx : putL (S.1 (S.2.1.getD k 0)) (decide (nI k = fg)) t with
        | none =>
          rw [hx] at h2
          have hx5 : x = -5 := h2
          subst hx5
          exact ⟨V2, -5, by rw [if_pos (by decide)], ⟨rfl, by rw [f2.2 14 (by decide), vset_at]⟩, f12⟩
        | some o =>
          rw [hx] at h2
          have h2' : (if 400 < o.length then x = -7 else x = 0 ∧ RowM V2 M o) := h2
          by_cases ho : 400 < o.length
          · rw [if_pos ho] at h2'
            subst h2'
            refine ⟨V2, -7, by rw [if_pos (by decide)], ?_, f12⟩
            show ThruM V2 M (if 400 < o.length then _ else _) _
            rw [if_pos ho]
            exact ⟨rfl, by rw [f2.2 14 (by decide), vset_at]⟩
          · rw [if_neg ho] at h2'
            obtain ⟨rfl, hro⟩ := h2'
            obtain ⟨V3, res, e3, h3, f3⟩ := ih (k + 1) V2 o (by omega) (by omega) (hS.mf f12 (by decide) (by decide)) hro (by omega) (putL_sg (hW.1 _ hci) hs hx)
            refine ⟨V3, res, by rw [if_neg (by decide), nI_1, e3], ?_, f12.tr f3⟩
            show ThruM V3 M (if 400 < o.length then _ else _) _
            rw [if_neg ho]; exact h3
      by_cases hfg : nI k = fg
      · rw [if_pos hfg]
        rw [decide_eq_true hfg] at key; exact key
      · rw [if_neg hfg]
        rw [decide_eq_false hfg] at key; exact key
    · rw [if_neg (fun z => h ((nI_ltI (by omega) (by omega)).mp z)), List.drop_eq_nil_of_le (by rw [List.length_take]; omega)]
      exact ⟨V, 0, rfl, ⟨rfl, hr, ht, hs⟩, MF.rf⟩
theorem m_goThrough (hK : MoK K P M) {S : StT} (hW : WfS S) {m : Nat} (hm : m ≤ S.2.1.length) (fg : Int32) {t : List Int32} (hS : MoS V M S) (hr : RowM V M t) (ht : t.length ≤ 400) (hs : SgL t) :
    ∃ V2 res, f_X7_goThrough K P M (nI m) fg V = some (res, V2) ∧ ThruM V2 M (thruL S.1 fg (S.2.1.take m) 0 t) res ∧ MF M AW JW V V2 := by
  obtain ⟨V2, res, e2, h2, f2⟩ := m_thru_loop hK hW hm fg FU 0 V t (FU_lt (by have := hW.2.1.1; omega)) (by omega) hS hr ht hs
  rw [nI_0] at e2
  rw [List.drop_zero] at h2
  exact ⟨V2, res, by rw [f_X7_goThrough, e2], h2, f2⟩
end MO2
