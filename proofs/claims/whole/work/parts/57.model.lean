/-! PURE PART, 8: the reference reads -/
theorem i32_in {lo hi : Nat} (hhi : hi < 2 ^ 31) (hlo : lo < 2 ^ 31) {s : Int32} (h1 : ¬ s < nI lo) (h2 : ¬ nI hi < s) : ∃ n : Nat, lo ≤ n ∧ n ≤ hi ∧ s = nI n := by
  have e1 := Int32.le_iff_toInt_le.mp (Int32.not_lt.mp h1)
  have e2 := Int32.le_iff_toInt_le.mp (Int32.not_lt.mp h2)
  rw [nI_toInt (by omega)] at e1 e2
  refine ⟨s.toInt.toNat, by omega, by omega, Int32.toInt_inj.mp ?_⟩
  rw [nI_toInt (by omega)]; omega
theorem inB_true {v lo hi : Int32} (h : inB v lo hi = true) : ¬ v < lo ∧ ¬ hi < v := by
  unfold inB at h
  split at h
  · cases h
  · rename_i a
    split at h
    · cases h
    · rename_i b
      exact ⟨a, b⟩
theorem inB_false {v lo hi : Int32} (h : inB v lo hi = false) : v < lo ∨ hi < v := by
  unfold inB at h
  split at h
  · rename_i a; exact Or.inl a
  · split at h
    · rename_i b; exact Or.inr b
    · cases h
def mval (c : Int32) : Int32 := if vdg c < 0 then -6 else vdg c
theorem vdg_dig {c : Int32} (h : inB c 48 57 = true) : vdg c = c - 48 ∧ ¬ vdg c < 0 := by
  obtain ⟨a, b⟩ := inB_true h
  have e : vdg c = c - 48 := by unfold vdg; rw [if_neg a, if_neg b]
  refine ⟨e, ?_⟩
  obtain ⟨n, h1, h2, rfl⟩ := i32_in (lo := 48) (hi := 57) (by decide) (by decide) a b
  rw [e]
  have key : ∀ n, n < 58 → 48 ≤ n → ¬ (nI n - 48 < 0) := by decide
  exact key n (by omega) h1
theorem vdg_not {c : Int32} (h : inB c 48 57 = false) : vdg c = vd2 c := by
  unfold vdg
  rcases inB_false h with a | a
  · rw [if_pos a]
  · split
    · rfl
    · first | rfl | rw [if_pos a]
theorem vd2_hex {c : Int32} (h : inB c 97 102 = true) : vd2 c = c - 97 + 10 ∧ ¬ vd2 c < 0 := by
  obtain ⟨a, b⟩ := inB_true h
  have e : vd2 c = c - 97 + 10 := by unfold vd2; rw [if_neg a, if_neg b]
  refine ⟨e, ?_⟩
  obtain ⟨n, h1, h2, rfl⟩ := i32_in (lo := 97) (hi := 102) (by decide) (by decide) a b
  rw [e]
  have key : ∀ n, n < 103 → 97 ≤ n → ¬ (nI n - 97 + 10 < 0) := by decide
  exact key n (by omega) h1
theorem vd2_not {c : Int32} (h : inB c 97 102 = false) : vd2 c = -1 := by
  unfold vd2
  rcases inB_false h with a | a
  · rw [if_pos a]
  · split
    · rfl
    · first | rfl | rw [if_pos a]
def codeL (t : List Int32) (j : Nat) : Int32 := if vdg (t.getD (j + 1) (-6)) < 0 then -6 else if vdg (t.getD (j + 2) (-6)) < 0 then -6 else m97 (vdg (t.getD (j + 1) (-6)) * 16 + vdg (t.getD (j + 2) (-6)))
theorem getD_none {t : List Int32} {j : Nat} (h : t.length ≤ j) : t.getD j (-6) = -6 := by
  rw [List.getD_eq_getElem?_getD, List.getElem?_eq_none h]; rfl
theorem sg_at {t : List Int32} (hs : SgL t) {j : Nat} (h : j < t.length) : isSg (t.getD j (-6)) = true := by
  rw [List.getD_eq_getElem?_getD, List.getElem?_eq_getElem h]; exact hs _ (List.getElem_mem h)
theorem sg_nneg {s : Int32} (h : isSg s = true) : ¬ s < 0 := by
  obtain ⟨n, -, h2, rfl⟩ := sg_nI h
  exact nI_pos (by omega)
theorem codeL_sg (t : List Int32) (j : Nat) : codeL t j = -6 ∨ (isSg (codeL t j) = true ∧ j + 2 < t.length) := by
  by_cases h : j + 2 < t.length
  · unfold codeL
    split
    · exact Or.inl rfl
    · split
      · exact Or.inl rfl
      · unfold m97
        split
        · rename_i z; exact Or.inr ⟨z, h⟩
        · exact Or.inl rfl
  · left
    unfold codeL
    rw [getD_none (show t.length ≤ j + 2 by omega)]
    split
    · rfl
    · rw [if_pos (by decide)]
section MO3
variable {K : KT} {P : PT} {V : VT} {M i : Nat} {y : LayT} {t : List Int32}
theorem m_valueOf (c : Int32) (V : VT) : f_X7_valueOf K P c V = some (mval c, V) := by
  rw [f_X7_valueOf, cS_k (m_in _ _ _ _)]
  unfold mval
  cases h : inB c 48 57 with
  | true =>
    obtain ⟨a, b⟩ := vdg_dig h
    rw [show bI true = 1 from rfl, if_neg (by decide), if_neg b, a]
  | false =>
    rw [show bI false = 0 from rfl, if_pos rfl, cS_k (m_in _ _ _ _), vdg_not h]
    cases h2 : inB c 97 102 with
    | true =>
      obtain ⟨a, b⟩ := vd2_hex h2
      rw [show bI true = 1 from rfl, if_neg (by decide), if_neg b, a]
    | false =>
      rw [show bI false = 0 from rfl, if_pos rfl, vd2_not h2, if_pos (by decide)]
theorem m_codeAt (hK : MoK K P M) (ht : t.length ≤ 400) (hr : RowM V M t) {j : Nat} (hj : j < t.length) : f_X7_codeAt K P M (nI j) V = some (codeL t j, V) := by
  rw [f_X7_codeAt, gI_k hK.1, hr.1, show (2 : Int32) = nI 2 from rfl, nI_add]
  by_cases h : j + 2 < t.length
  · rw [if_pos ((nI_ltI (by omega) (by omega)).mpr h), nI_1, gR_k hK.1 hK.p12, aI_n hK.k12 (by omega) (by decide), hr.2.get (by omega) (-6), cS_k (m_valueOf _ _)]
    unfold codeL
    by_cases h1 : vdg (t.getD (j + 1) (-6)) < 0
    · rw [show mval (t.getD (j + 1) (-6)) = -6 by unfold mval; rw [if_pos h1], if_pos (by decide), if_pos h1]
    · rw [show mval (t.getD (j + 1) (-6)) = vdg (t.getD (j + 1) (-6)) by unfold mval; rw [if_neg h1], if_neg h1, if_neg h1, gR_k hK.1 hK.p12, aI_n hK.k12 (by omega) (by decide), hr.2.get (by omega) (-6), cS_k (m_valueOf _ _)]
      by_cases h2 : vdg (t.getD (j + 2) (-6)) < 0
      · rw [show mval (t.getD (j + 2) (-6)) = -6 by unfold mval; rw [if_pos h2], if_pos (by decide), if_pos h2]
      · rw [show mval (t.getD (j + 2) (-6)) = vdg (t.getD (j + 2) (-6)) by unfold mval; rw [if_neg h2], if_neg h2, if_neg h2, gR_k hK.1 hK.p12, aI_n hK.k12 (by omega) (by decide), hr.2.get (by omega) (-6), cS_k (m_valueOf _ _), gR_k hK.1 hK.p12, aI_n hK.k12 (by omega) (by decide), hr.2.get (by omega) (-6), cS_k (m_valueOf _ _), cS_k (m_in _ _ _ _)]
        rw [show mval (t.getD (j + 1) (-6)) = vdg (t.getD (j + 1) (-6)) by unfold mval; rw [if_neg h1], show mval (t.getD (j + 2) (-6)) = vdg (t.getD (j + 2) (-6)) by unfold mval; rw [if_neg h2], Int32.mul_comm 16]
        unfold m97
        rw [show inB (vdg (t.getD (j + 1) (-6)) * 16 + vdg (t.getD (j + 2) (-6))) 33 126 = isSg (vdg (t.getD (j + 1) (-6)) * 16 + vdg (t.getD (j + 2) (-6))) from rfl]
        cases isSg (vdg (t.getD (j + 1) (-6)) * 16 + vdg (t.getD (j + 2) (-6))) <;> rfl
  · rw [if_neg (fun z => h ((nI_ltI (by omega) (by omega)).mp z))]
    rcases codeL_sg t j with e | e
    · rw [e]
    · exact absurd e.2 h
def TakeM (V2 : VT) (M : Nat) (t : List Int32) (x : Int32 × List Int32) : Prop := (x.1 = -6 ∧ RowM V2 M x.2 ∧ SgL x.2 ∧ x.2.length ≤ t.length) ∨ ∃ b : Nat, b ≤ 400 ∧ x.1 = nI b
theorem m_read_copy (hK : MoK K P M) {out : List Int32} (ho : out.length ≤ 400) :
    ∀ (n k : Nat) (V : VT), out.length - k < n → k ≤ out.length → ArV V (M + 10) out → ArV V (M + 9) (out.take k) → ∃ V2, f_X7_readBy_298 K P n M (nI out.length) (nI k) V = some (-6, V2) ∧ RowM V2 M out ∧ MF M AW JP V V2 := by
  intro n
  induction n with
  | zero => intro k V h; omega
  | succ n ih =>
    intro k V hn hk ha hr
    rw [f_X7_readBy_298]
    by_cases h : k < out.length
    · rw [if_pos ((nI_ltI (by omega) (by omega)).mpr h), gR_k hK.1 hK.p12, gR_k hK.1 hK.p13, aI_n hK.k13 (by omega) (by decide), sA_n hK.k12 (by omega) (by decide), nI_1, ha.get h (-6)]
      obtain ⟨V2, e2, h2, f2⟩ := ih (k + 1) _ (by omega) (by omega) (ha.keep (vset_ne (by omega))) (hr.next h (-6))
      exact ⟨V2, e2, h2, (MF.cel (k := 9) (by decide) (by decide)).tr f2⟩
    · rw [if_neg (fun z => h ((nI_ltI (by omega) (by omega)).mp z)), sI_k hK.1]
      rw [List.take_of_length_le (by omega)] at hr
      exact ⟨_, rfl, ⟨vset_at, hr.keep (vset_ne (by omega))⟩, MF.fld (by decide)⟩
theorem m_read_295 (hK : MoK K P M) {acc : List Int32} (ht : t.length ≤ 400) (ha : acc.length ≤ t.length) (hs : SgL acc) (hA : ArV V (M + 10) acc) : ∃ V2, f_X7_readBy_295 K P M (nI acc.length) V = some (-6, V2) ∧ TakeM V2 M t (-6, acc) ∧ MF M AW JP V V2 := by
  obtain ⟨V2, e2, h2, f2⟩ := m_read_copy hK (out := acc) (by omega) FU 0 V (FU_lt (by omega)) (by omega) hA ArV.nil
  rw [nI_0] at e2
  exact ⟨V2, by rw [f_X7_readBy_295, e2], Or.inl ⟨rfl, h2, hs, ha⟩, f2⟩
theorem m_read_loop (hK : MoK K P M) (hi : i < 5) (hw : wfL y) (ht : t.length ≤ 400) (hs : SgL t) :
    ∀ (n k j : Nat) (V : VT) (acc : List Int32), t.length - j + 1 < n → t.length - j ≤ k → j ≤ t.length → acc.length ≤ j → SgL acc → MLay V M i y → RowM V M t → ArV V (M + 10) acc →
      ∃ V2, f_X7_readBy_41 K P n M (nI i) (nI acc.length) (nI j) 0 V = some ((rdL y t k j acc).1, V2) ∧ TakeM V2 M t (rdL y t k j acc) ∧ MF M AW JP V V2 := by
  intro n
  induction n with
  | zero => intro k j V acc h; omega
  | succ n ih =>
    intro k j V acc hn hk hj ha hsa hV hr hA
    rw [f_X7_readBy_41, gI_k hK.1, hr.1]
    by_cases h : j < t.length
    · obtain ⟨k, rfl⟩ : ∃ q, k = q + 1 := ⟨k - 1, by omega⟩
      have hsg := sg_at hs h
      rw [if_pos ((nI_ltI (by omega) (by omega)).mpr h), if_pos rfl, gR_k hK.1 hK.p12, aI_n hK.k12 (by omega) (by decide), hr.2.get h (-6), gR_k hK.1 hK.p4, aI_n hK.k4 hi (by decide), hV.2.2.1]
      unfold rdL
      rw [if_pos h]
      have step : ∀ (s : Int32) (w : Nat), isSg s = true → 0 < w → j + w ≤ t.length → ∃ V2, f_X7_readBy_245 K P (f_X7_readBy_41 K P n) M (nI i) (nI acc.length) (nI j) 0 s (nI w) V = some ((rdL y t k (j + w) (acc ++ [s])).1, V2) ∧ TakeM V2 M t (rdL y t k (j + w) (acc ++ [s])) ∧ MF M AW JP V V2 := by
        intro s w hss hw0 hw1
        rw [f_X7_readBy_245, if_pos rfl, gR_k hK.1 hK.p13, sA_n hK.k13 (by omega) (by decide), f_X7_readBy_261, nI_1, nI_add]
        have f1 : MF M [10] [] V (vset V (M + 10) acc.length s) := MF.cel (by decide) (by decide)
        obtain ⟨V2, e2, h2, f2⟩ := ih k (j + w) _ (acc ++ [s]) (by omega) (by omega) hw1 (by rw [List.length_append]; simp; omega) (by
          intro x hx
          rcases List.mem_append.mp hx with hx | hx
          · exact hsa x hx
          · simp only [List.mem_cons, List.not_mem_nil, or_false] at hx
            rw [hx]; exact hss) (hV.mf f1 (by decide)) (hr.mf f1 (by decide) (by decide)) (hA.push s)
        rw [List.length_append] at e2
        exact ⟨V2, e2, h2, (f1.wd (by decide) (by decide)).tr f2⟩
      have stop : ∃ V2, some (nI j, V) = some ((nI j, acc).1, V2) ∧ TakeM V2 M t (nI j, acc) ∧ MF M AW JP V V2 := ⟨V, rfl, Or.inr ⟨j, by omega, rfl⟩, MF.rf⟩
      by_cases hc : t.getD j (-6) = y.2.2.1
      · have hm : hmB y.2.1 = true := by
          cases z : hmB y.2.1 with
          | true => rfl
          | false => exact absurd (hw.2.2.2.2.2 z) (by rw [← hc]; exact sg_ne6 hsg)
        have hne : ¬ t.getD j (-6) = y.1 := by rw [hc]; exact fun z => (hw.2.2.2.2.1 hm).2 z.symm
        have he : endsB y t j = false := by unfold endsB; rw [decide_eq_false hne]; rfl
        have hmt : meant y t j = if y.2.1 = 1 then t.getD (j + 1) (-6) else codeL t j := by unfold meant codeL; rw [if_pos hc]
        have hwd : wid y (t.getD j (-6)) = if y.2.1 = 1 then 2 else 3 := by unfold wid; rw [if_pos hc]
        rw [if_pos hc, gR_k hK.1 hK.p3, aI_n hK.k3 hi (by decide), hV.2.1, he, if_neg (show ¬ (false = true) by decide), hmt, hwd]
        by_cases h1 : y.2.1 = 1
        · rw [if_pos h1, if_pos h1, if_pos h1, gI_k hK.1, hr.1, nI_1]
          by_cases h2 : j + 1 < t.length
          · rw [if_pos ((nI_ltI (by omega) (by omega)).mpr h2), gR_k hK.1 hK.p12, aI_n hK.k12 (by omega) (by decide), hr.2.get h2 (-6), f_X7_readBy_121, gR_k hK.1 hK.p3, aI_n hK.k3 hi (by decide), hV.2.1, if_pos h1, f_X7_readBy_138, if_neg (sg_nneg (sg_at hs h2)), if_neg (sg_ne6 (sg_at hs h2))]
            exact step _ 2 (sg_at hs h2) (by omega) (by omega)
          · rw [if_neg (fun z => h2 ((nI_ltI (by omega) (by omega)).mp z)), f_X7_readBy_121, gR_k hK.1 hK.p3, aI_n hK.k3 hi (by decide), hV.2.1, if_pos h1, f_X7_readBy_138, if_pos (by decide), getD_none (by omega), if_pos rfl]
            exact stop
        · rw [if_neg h1, if_neg h1, if_neg h1, cV_k hK.1 (m_codeAt hK ht hr h), f_X7_readBy_121, gR_k hK.1 hK.p3, aI_n hK.k3 hi (by decide), hV.2.1, if_neg h1, f_X7_readBy_138]
          rcases codeL_sg t j with e | ⟨e, e2⟩
          · rw [e, if_pos (by decide), if_pos rfl]; exact stop
          · rw [if_neg (sg_nneg e), if_neg (sg_ne6 e)]; exact step _ 3 e (by omega) (by omega)
      · rw [if_neg hc, cV_k hK.1 (m_hasMark hK hi hw hV)]
        have plain : ¬ t.getD j (-6) = y.1 → ∃ V2, f_X7_readBy_233 K P (f_X7_readBy_41 K P n) M (nI i) (nI acc.length) (nI j) 0 (t.getD j (-6)) (t.getD j (-6)) 1 V = some ((if endsB y t j = true then ((if j + 1 < t.length then nI (j + 1) else -6), acc) else if meant y t j = -6 then (nI j, acc) else rdL y t k (j + wid y (t.getD j (-6))) (acc ++ [meant y t j])).1, V2) ∧ TakeM V2 M t (if endsB y t j = true then ((if j + 1 < t.length then nI (j + 1) else -6), acc) else if meant y t j = -6 then (nI j, acc) else rdL y t k (j + wid y (t.getD j (-6))) (acc ++ [meant y t j])) ∧ MF M AW JP V V2 := by
          intro hne
          have he : endsB y t j = false := by unfold endsB; rw [decide_eq_false hne]; rfl
          have hmt : meant y t j = if t.getD j (-6) ∈ y.2.2.2 then -6 else t.getD j (-6) := by unfold meant; rw [if_neg hc]
          have hwd : wid y (t.getD j (-6)) = 1 := by unfold wid; rw [if_neg hc, if_neg hne]
          rw [he, if_neg (show ¬ (false = true) by decide), hmt, hwd, f_X7_readBy_233, cV_k hK.1 (m_isHeld hK hi hw hV _)]
          by_cases hh : t.getD j (-6) ∈ y.2.2.2
          · rw [decide_eq_true hh, if_neg (by decide), if_pos hh, if_pos rfl]; exact stop
          · rw [decide_eq_false hh, if_pos (by decide), if_neg hh, if_neg (sg_ne6 hsg)]
            exact step _ 1 hsg (by omega) (by omega)
        have ended : ∃ V2, f_X7_readBy_203 K P (f_X7_readBy_41 K P n) M (nI i) (nI acc.length) (nI j) (t.getD j (-6)) V = some (((if j + 1 < t.length then nI (j + 1) else -6), acc).1, V2) ∧ TakeM V2 M t ((if j + 1 < t.length then nI (j + 1) else -6), acc) ∧ MF M AW JP V V2 := by
          obtain ⟨n, rfl⟩ : ∃ q, n = q + 1 := ⟨n - 1, by omega⟩
          have h269 : ∃ V2, f_X7_readBy_269 K P M (nI i) (nI acc.length) (nI (j + 1)) 1 V = some (((if j + 1 < t.length then nI (j + 1) else -6), acc).1, V2) ∧ TakeM V2 M t ((if j + 1 < t.length then nI (j + 1) else -6), acc) ∧ MF M AW JP V V2 := by
            rw [f_X7_readBy_269, if_neg (by decide), gI_k hK.1, hr.1]
            by_cases h2 : j + 1 < t.length
            · rw [if_pos ((nI_ltI (by omega) (by omega)).mpr h2), if_pos h2]
              exact ⟨V, rfl, Or.inr ⟨j + 1, by omega, rfl⟩, MF.rf⟩
            · rw [if_neg (fun z => h2 ((nI_ltI (by omega) (by omega)).mp z)), if_neg h2]
              exact m_read_295 hK ht (by omega) hsa hA
          rw [f_X7_readBy_203, f_X7_readBy_204, if_pos rfl, f_X7_readBy_216, if_pos rfl, f_X7_readBy_228, f_X7_readBy_245, if_neg (by decide), f_X7_readBy_261, nI_1, f_X7_readBy_41, gI_k hK.1, if_neg (show ¬ ((1 : Int32) = 0) by decide), ite_self]
          exact h269
        by_cases h6 : y.1 = -6
        · rw [decide_eq_false (fun z => z h6), show bI false = 0 from rfl, if_pos rfl]
          exact plain (by rw [h6]; exact sg_ne6 hsg)
        · have hmk : mkM y = y.1 := by unfold mkM; rw [if_neg h6]
          rw [decide_eq_true h6, show bI true = 1 from rfl, if_neg (by decide), gR_k hK.1 hK.p2, aI_n hK.k2 hi (by decide), hV.1, hmk]
          by_cases h1 : t.getD j (-6) = y.1
          · rw [if_pos h1, gR_k hK.1 hK.p3, aI_n hK.k3 hi (by decide), hV.2.1]
            by_cases h2 : y.2.1 = 2
            · rw [if_pos h2, gI_k hK.1, hr.1, nI_1]
              by_cases h3 : j + 1 < t.length
              · rw [if_pos ((nI_ltI (by omega) (by omega)).mpr h3), gR_k hK.1 hK.p12, aI_n hK.k12 (by omega) (by decide), hr.2.get h3 (-6)]
                by_cases h4 : t.getD (j + 1) (-6) = t.getD j (-6)
                · have he : endsB y t j = false := by unfold endsB; rw [decide_eq_true h1, decide_eq_true h2, decide_eq_true (h4.trans h1)]; rfl
                  have hmt : meant y t j = t.getD j (-6) := by unfold meant; rw [if_neg hc, (hw.2.2.2.1 h2).2, if_neg (by simp)]
                  have hwd : wid y (t.getD j (-6)) = 2 := by unfold wid; rw [if_neg hc, if_pos h1]
                  rw [if_pos h4, he, if_neg (show ¬ (false = true) by decide), hmt, hwd, if_neg (sg_ne6 hsg), f_X7_readBy_204, if_neg (by decide), f_X7_readBy_216, if_neg (by decide), f_X7_readBy_228]
                  exact step _ 2 hsg (by omega) (by omega)
                · have he : endsB y t j = true := by unfold endsB; rw [decide_eq_true h1, decide_eq_true h2, decide_eq_false (show ¬ (t.getD (j + 1) (-6) = y.1) from fun z => h4 (z.trans h1.symm))]; rfl
                  rw [if_neg h4, he, if_pos (show true = true from rfl)]; exact ended
              · have he : endsB y t j = true := by
                  unfold endsB
                  rw [decide_eq_true h1, getD_none (show t.length ≤ j + 1 by omega), decide_eq_true h2, decide_eq_false (show ¬ ((-6 : Int32) = y.1) from fun z => h6 z.symm)]; rfl
                rw [if_neg (fun z => h3 ((nI_ltI (by omega) (by omega)).mp z)), he, if_pos (show true = true from rfl)]; exact ended
            · have he : endsB y t j = true := by unfold endsB; rw [decide_eq_true h1, decide_eq_false h2]; rfl
              rw [if_neg h2, he, if_pos (show true = true from rfl)]; exact ended
          · rw [if_neg h1]; exact plain h1
    · have hjl : j = t.length := by omega
      subst hjl
      rw [if_neg (fun z => h ((nI_ltI (by omega) (by omega)).mp z)), f_X7_readBy_269, if_pos rfl, cV_k hK.1 (m_hasMark hK hi hw hV)]
      have hx : rdL y t k t.length acc = (rdE y t, acc) := by
        cases k with
        | zero => rfl
        | succ k => unfold rdL; rw [if_neg h]
      rw [hx]
      unfold rdE
      by_cases h6 : y.1 = -6
      · rw [decide_eq_false (fun z => z h6), show bI false = 0 from rfl, if_pos rfl, if_pos h6]
        exact m_read_295 hK ht ha hsa hA
      · rw [decide_eq_true h6, show bI true = 1 from rfl, if_neg (by decide), if_neg h6]
        exact ⟨V, rfl, Or.inr ⟨t.length, ht, rfl⟩, MF.rf⟩
theorem m_readBy (hK : MoK K P M) (hi : i < 5) (hw : wfL y) (ht : t.length ≤ 400) (hs : SgL t) (hV : MLay V M i y) (hr : RowM V M t) :
    ∃ V2, f_X7_readBy K P M (nI i) V = some ((takeOffL y t).1, V2) ∧ TakeM V2 M t (takeOffL y t) ∧ MF M AW JP V V2 := by
  have hnil : SgL [] := fun x hx => by simp at hx
  rw [f_X7_readBy, cV_k hK.1 (m_hasMark hK hi hw hV)]
  unfold takeOffL
  by_cases h6 : y.1 = -6
  · rw [decide_eq_false (fun z => z h6), show bI false = 0 from rfl, if_pos rfl, if_pos h6, f_X7_readBy_38]
    have := m_read_loop hK hi hw ht hs FU 400 0 V [] (FU_lt (by omega)) (by omega) (by omega) (by simp) hnil hV hr ArV.nil
    rw [List.length_nil, nI_0] at this
    exact this
  · have hmk : mkM y = y.1 := by unfold mkM; rw [if_neg h6]
    rw [decide_eq_true h6, show bI true = 1 from rfl, if_neg (by decide), if_neg h6, gI_k hK.1, hr.1]
    have stop : ∃ V2, some ((0 : Int32), V) = some (((0 : Int32), ([] : List Int32)).1, V2) ∧ TakeM V2 M t (0, []) ∧ MF M AW JP V V2 := ⟨V, rfl, Or.inr ⟨0, by omega, nI_0.symm⟩, MF.rf⟩
    by_cases h0 : t.length = 0
    · rw [if_pos (by rw [h0]; exact nI_0), getD_none (by omega), if_neg (fun z => h6 z.symm)]
      exact stop
    · have hf : V (M + 9) 0 = t.getD 0 (-6) := hr.2.get (by omega) (-6)
      rw [if_neg (nI_ne0 (by omega) (by omega)), gR_k hK.1 hK.p12, show (0 : Int32) = nI 0 from nI_0.symm, aI_n hK.k12 (by decide) (by decide), gR_k hK.1 hK.p2, aI_n hK.k2 hi (by decide), hV.1, hmk, hf]
      by_cases h1 : t.getD 0 (-6) = y.1
      · rw [if_pos h1, if_pos h1, f_X7_readBy_38]
        have := m_read_loop hK hi hw ht hs FU 400 1 V [] (FU_lt (by omega)) (by omega) (by omega) (by simp) hnil hV hr ArV.nil
        exact this
      · rw [if_neg h1, if_neg h1, nI_0]; exact stop
def ReadM (V2 : VT) (M : Nat) (x : (Nat × Int32) ⊕ List Int32) (res : Int32) : Prop := match x with
  | .inl (k, b) => res = b ∧ V2 M 14 = nI k ∧ ∃ c : Nat, c ≤ 400 ∧ b = nI c
  | .inr o => res = -6 ∧ RowM V2 M o ∧ SgL o ∧ o.length ≤ 400
theorem m_back_loop (hK : MoK K P M) {S : StT} (hW : WfS S) :
    ∀ (n k : Nat) (V : VT) (t : List Int32), k < n → k ≤ S.2.1.length → MoS V M S → RowM V M t → t.length ≤ 400 → SgL t →
      ∃ V2 res, f_X7_readBack_7 K P n M (nI k - 1) V = some (res, V2) ∧ ReadM V2 M (readL S.1 S.2.1 k t) res ∧ MF M AW JW V V2 := by
  intro n
  induction n with
  | zero => intro k V t h; omega
  | succ n ih =>
    intro k V t hn hk hS hr ht hs
    have hc := hW.2.1
    rw [f_X7_readBack_7]
    cases k with
    | zero => exact ⟨V, -6, by rw [if_pos (by decide)], ⟨rfl, hr, hs, ht⟩, MF.rf⟩
    | succ k =>
      have hci : S.2.1.getD k 0 < 5 := by
        rw [List.getD_eq_getElem?_getD, List.getElem?_eq_getElem (show k < S.2.1.length by omega)]; exact hc.2 _ (List.getElem_mem _)
      have f1 : MF M [] [14] V (vset V M 14 (nI k)) := MF.fld (by decide)
      have hS1 := hS.mf f1 (by decide) (by decide)
      have hr1 := hr.mf f1 (by decide) (by decide)
      rw [nI_sub1, if_neg (nI_pos (by omega)), sI_k hK.1, gR_k hK.1 hK.p8, aI_n hK.k8 (by omega) (by decide), hS1.2.1.2.get (by rw [List.length_map]; omega) (-6), map_nI_getD (by omega)]
      obtain ⟨V2, e2, h2, f2⟩ := m_readBy hK hci (hW.1 _ hci) ht hs (hS1.1 _ hci) hr1
      have f12 : MF M AW JW V V2 := (f1.wd (by decide) (by decide)).tr (f2.wd (by decide) (by decide))
      rw [cV_k hK.1 e2]
      unfold readL
      rcases h2 with ⟨a, b, c, d⟩ | ⟨b, hb, e⟩
      · rw [a, if_pos (by decide), if_pos rfl, nI_add_m1]
        obtain ⟨V3, res, e3, h3, f3⟩ := ih k V2 _ (by omega) (by omega) (hS.mf f12 (by decide) (by decide)) b (by omega) c
        exact ⟨V3, res, e3, h3, f12.tr f3⟩
      · rw [e, if_neg (nI_pos (by omega)), if_neg (nI_ne_neg (by omega) (by decide))]
        exact ⟨V2, _, rfl, ⟨rfl, by rw [f2.2 14 (by decide), vset_at], b, hb, rfl⟩, f12⟩
theorem m_readBack (hK : MoK K P M) {S : StT} (hW : WfS S) (hS : MoS V M S) (hr : RowM V M t) (ht : t.length ≤ 400) (hs : SgL t) :
    ∃ V2 res, f_X7_readBack K P M V = some (res, V2) ∧ ReadM V2 M (readL S.1 S.2.1 S.2.1.length t) res ∧ MF M AW JW V V2 := by
  obtain ⟨V2, res, e2, h2, f2⟩ := m_back_loop hK hW FU S.2.1.length V t (FU_lt (by have := hW.2.1.1; omega)) (Nat.le_refl _) hS hr ht hs
  exact ⟨V2, res, by rw [f_X7_readBack, gI_k hK.1, hS.2.1.1, e2], h2, f2⟩
end MO3
