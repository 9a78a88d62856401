/-! PURE PART, 10: a layer told; texts laid; how a text comes back -/
theorem flt1_cases (l : List Int32) (e : Nat) : ∀ (n i : Nat), flt1 l e n i = -6 ∨ ∃ j, i ≤ j ∧ j < l.length ∧ flt1 l e n i = nI j
  | 0, i => Or.inl rfl
  | n + 1, i => by
    unfold flt1
    split
    · rename_i h
      split
      · split
        · rcases flt1_cases l e n (i + 1) with h2 | ⟨j, h2, h3, h4⟩
          · exact Or.inl h2
          · exact Or.inr ⟨j, by omega, h3, h4⟩
        · exact Or.inr ⟨i, by omega, h, rfl⟩
      · exact Or.inr ⟨i, by omega, h, rfl⟩
    · exact Or.inl rfl
theorem fltC_cases (l : List Int32) (hl : l.length ≤ 60) : fltC l = -6 ∨ ∃ j, j < 100 ∧ fltC l = nI j := by
  unfold fltC
  split
  · split
    · split
      · exact Or.inr ⟨2, by omega, rfl⟩
      · rcases flt1_cases l (fhI (l.getD 1 (-6) - 48) + if l.getD 1 (-6) - 48 = 2 then 0 else 6) 1000 (fhI (l.getD 1 (-6) - 48)) with h | ⟨j, -, h2, h3⟩
        · exact Or.inl h
        · exact Or.inr ⟨j, by omega, h3⟩
    · exact Or.inr ⟨1, by omega, rfl⟩
  · exact Or.inr ⟨0, by omega, nI_0.symm⟩
theorem flt1_len (l : List Int32) (e : Nat) (hl : l.length ≤ 60) : ∀ (n i : Nat), l.length + 1 - i < n → i ≤ e → flt1 l e n i = -6 → l.length ≤ e
  | 0, i, h, _, _ => by omega
  | n + 1, i, hn, hi, h => by
    unfold flt1 at h
    by_cases h1 : i < l.length
    · rw [if_pos h1] at h
      by_cases h2 : i < e
      · rw [if_pos h2] at h
        split at h
        · exact flt1_len l e hl n (i + 1) (by omega) (by omega) h
        · exact absurd h (nI_ne_neg (by omega) (by decide))
      · rw [if_neg h2] at h
        exact absurd h (nI_ne_neg (by omega) (by decide))
    · omega
theorem wf_bec {l : List Int32} (hl : l.length ≤ 60) (h : fltC l = -6) : wfL (becL l) ∧ fhI (l.getD 1 (-6) - 48) ≤ l.length ∧ mkM (becL l) = l.getD 0 (-6) ∧ (hmB (becL l).2.1 = true → 2 < l.length) ∧ 1 < l.length := by
  unfold fltC at h
  cases hm : cmB (l.getD 0 (-6)) with
  | false => rw [hm, if_neg (by decide)] at h; exact absurd h (by decide)
  | true =>
    rw [hm, if_pos rfl] at h
    cases hc : cwB (l.getD 1 (-6)) (l.getD 0 (-6)) with
    | false => rw [hc, if_neg (by decide)] at h; exact absurd h (by decide)
    | true =>
      rw [hc, if_pos rfl] at h
      obtain ⟨hw, hw5⟩ := cwB_w hc
      have hs0 : isSg (l.getD 0 (-6)) = true := by
        unfold cmB at hm
        cases z : isSg (l.getD 0 (-6)) with
        | true => rfl
        | false => rw [z] at hm; cases hm
      have h1l : 1 < l.length := by
        by_cases z : 1 < l.length
        · exact z
        · rw [getD_none (show l.length ≤ 1 by omega)] at hw; exact absurd hw (by decide)
      have hmk : mkM (becL l) = l.getD 0 (-6) := by
        unfold mkM becL
        by_cases z : l.getD 0 (-6) = 45
        · rw [if_pos z, if_pos rfl, z]
        · rw [if_neg z, if_neg (sg_ne6 hs0)]
      have hmark : (becL l).1 = -6 ∨ (isSg (becL l).1 = true ∧ (becL l).1 ≠ 45) := by
        unfold becL
        by_cases z : l.getD 0 (-6) = 45
        · rw [if_pos z]; exact Or.inl rfl
        · rw [if_neg z]; exact Or.inr ⟨hs0, z⟩
      have hway : (becL l).2.1 = l.getD 1 (-6) - 48 := rfl
      have hwd : (becL l).2.1 = 0 ∨ (becL l).2.1 = 1 ∨ (becL l).2.1 = 2 ∨ (becL l).2.1 = 3 := by
        rw [hway]
        rcases hw with h | h | h | h <;> rw [h]
        · exact Or.inl rfl
        · exact Or.inr (Or.inl rfl)
        · exact Or.inr (Or.inr (Or.inl rfl))
        · exact Or.inr (Or.inr (Or.inr rfl))
      have hmask : hmB (l.getD 1 (-6) - 48) = true → nsB l 2 = true ∧ 2 < l.length := by
        intro z
        cases hn : nsB l 2 with
        | false => rw [if_pos ⟨z, hn⟩] at h; exact absurd h (by decide)
        | true =>
          refine ⟨rfl, ?_⟩
          by_cases q : 2 < l.length
          · exact q
          · unfold nsB at hn
            rw [getD_none (show l.length ≤ 2 by omega)] at hn
            cases hn
      have hfl : flt1 l (fhI (l.getD 1 (-6) - 48) + if l.getD 1 (-6) - 48 = 2 then 0 else 6) 1000 (fhI (l.getD 1 (-6) - 48)) = -6 := by
        rw [if_neg (fun z => by rw [(hmask z.1).1] at z; exact absurd z.2 (by decide))] at h
        exact h
      have hf3 : fhI (l.getD 1 (-6) - 48) ≤ l.length := by
        unfold fhI
        split
        · rename_i z; exact (hmask z).2
        · exact h1l
      have hle := flt1_len l _ hl 1000 _ (by omega) (Nat.le_add_right _ _) hfl
      refine ⟨⟨?_, hmark, hwd, fun h2 => ?_, fun z => ?_, fun z => ?_⟩, hf3, hmk, fun z => (hmask z).2, h1l⟩
      · show (l.drop (fhI (l.getD 1 (-6) - 48))).length ≤ 6
        rw [List.length_drop]
        have : (if l.getD 1 (-6) - 48 = 2 then 0 else 6) ≤ 6 := by split <;> omega
        omega
      · rw [hway] at h2
        rw [if_pos h2, Nat.add_zero] at hle
        have hw50 : l.getD 1 (-6) = 50 := by
          rcases hw with h | h | h | h
          · rw [h] at h2; exact absurd h2 (by decide)
          · rw [h] at h2; exact absurd h2 (by decide)
          · exact h
          · rw [h] at h2; exact absurd h2 (by decide)
        refine ⟨?_, List.drop_eq_nil_of_le hle⟩
        show (if l.getD 0 (-6) = 45 then (-6 : Int32) else l.getD 0 (-6)) ≠ -6
        rw [if_neg (hw5 hw50)]; exact sg_ne6 hs0
      · have hn := (hmask z).1
        have h2l := (hmask z).2
        have hmk2 : (becL l).2.2.1 = l.getD 2 (-6) := by
          show (if hmB (l.getD 1 (-6) - 48) = true then l.getD 2 (-6) else -6) = _
          rw [if_pos (show hmB (l.getD 1 (-6) - 48) = true from z)]
        unfold nsB cmB at hn
        have hs2 : isSg (l.getD 2 (-6)) = true := by
          cases q : isSg (l.getD 2 (-6)) with
          | true => rfl
          | false => rw [q] at hn; cases hn
        rw [hmk2]
        refine ⟨hs2, ?_⟩
        show (if l.getD 0 (-6) = 45 then (-6 : Int32) else l.getD 0 (-6)) ≠ l.getD 2 (-6)
        split
        · exact fun e => sg_ne6 hs2 e.symm
        · intro e
          have hmem : l.getD 2 (-6) ∈ l.take 2 := by
            rw [← e, List.getD_eq_getElem?_getD, List.getElem?_eq_getElem (by omega)]
            refine List.mem_iff_getElem?.mpr ⟨0, ?_⟩
            rw [List.getElem?_take, if_pos (by omega), List.getElem?_eq_getElem (by omega)]; rfl
          rw [decide_eq_true hmem] at hn
          simp at hn
      · show (if hmB (l.getD 1 (-6) - 48) = true then l.getD 2 (-6) else -6) = -6
        have z2 : hmB (l.getD 1 (-6) - 48) = false := z
        rw [z2, if_neg (by decide)]
section MO5
variable {K : KT} {P : PT} {V : VT} {M i : Nat} {l : List Int32}
theorem m_layer_loop (hK : MoK K P M) (hi : i < 5) (hl : l.length ≤ 60) {f : Nat} (hf : f ≤ l.length) (hh : (l.drop f).length ≤ 6) :
    ∀ (n k : Nat) (V : VT), (l.drop f).length - k < n → k ≤ (l.drop f).length → PadM V M l → V (M + 5) i = nI (l.drop f).length → (∀ (j : Nat) (x : Int32), ((l.drop f).take k)[j]? = some x → V (M + 6) (6 * i + j) = x) →
      ∃ V2, f_X7_layer_118 K P n M (nI i) (nI f) (nI k) V = some (nI (l.drop f).length, V2) ∧ PadM V2 M [] ∧ V2 (M + 5) i = nI (l.drop f).length ∧ (∀ (j : Nat) (x : Int32), (l.drop f)[j]? = some x → V2 (M + 6) (6 * i + j) = x) ∧ MF M [6] [0] V V2 ∧ ∀ j, (j < 6 * i ∨ 6 * i + 6 ≤ j) → V2 (M + 6) j = V (M + 6) j := by
  intro n
  induction n with
  | zero => intro k V h; omega
  | succ n ih =>
    intro k V hn hk hp h5 h6
    have hlen : (l.drop f).length = l.length - f := List.length_drop
    rw [f_X7_layer_118, gR_k hK.1 hK.p5, aI_n hK.k5 hi (by decide), h5]
    by_cases h : k < (l.drop f).length
    · rw [if_pos ((nI_ltI (by omega) (by omega)).mpr h), gR_k hK.1 hK.p6, gR_k hK.1 hK.p1, nI_add, aI_n hK.k1 (by omega) (by decide), hp.2.get (by omega) (-6), show (6 : Int32) = nI 6 from rfl, pk_mul, nI_add, sA_n hK.k6 (by omega) (by decide), nI_1]
      have f0 : MF M [6] [] V (vset V (M + 6) (6 * i + k) (l.getD (f + k) (-6))) := MF.cel (by decide) (by decide)
      have f1 : MF M [6] [0] V (vset V (M + 6) (6 * i + k) (l.getD (f + k) (-6))) := f0.wd (by decide) (by decide)
      obtain ⟨V2, e2, p2, q2, h2, f2, g2⟩ := ih (k + 1) _ (by omega) (by omega) (hp.mf f0 (by decide) (by decide)) (by rw [vset_ne (by omega)]; exact h5) (by
        intro j x hj
        rw [List.getElem?_take] at hj
        split at hj
        · rename_i hjk
          by_cases hjk2 : j = k
          · subst hjk2
            rw [vset_at, List.getD_eq_getElem?_getD]
            rw [List.getElem?_drop] at hj
            rw [hj]; rfl
          · rw [vset_k (by omega)]
            exact h6 j x (by rw [List.getElem?_take, if_pos (by omega)]; exact hj)
        · cases hj)
      exact ⟨V2, e2, p2, q2, h2, f1.tr f2, fun j hj => by rw [g2 j hj, vset_k (by omega)]⟩
    · rw [if_neg (fun z => h ((nI_ltI (by omega) (by omega)).mp z)), sI_k hK.1, gR_k hK.1 hK.p5, aI_n hK.k5 hi (by decide), vset_ne (by omega), h5]
      refine ⟨_, rfl, ⟨by rw [vset_at]; exact nI_0.symm, ArV.nil⟩, by rw [vset_ne (by omega)]; exact h5, fun j x hj => ?_, MF.fld (by decide), fun j _ => by rw [vset_ne (by omega)]⟩
      rw [vset_ne (by omega)]
      exact h6 j x (by rw [List.take_of_length_le (by omega)]; exact hj)
theorem m_isLayer (x : Int32) (V : VT) : f_X7_isLayer K P x V = some (bI (inB x 0 4), V) := by
  rw [f_X7_isLayer, cS_k (m_in _ _ _ _), rB_bI]
def updS (S : StT) (i : Nat) (y : LayT) : StT := (fun k => if k = i then y else S.1 k, S.2)
theorem inB_nI {j lo hi : Nat} (hj : j < 2 ^ 31) (hl : lo < 2 ^ 31) (hh : hi < 2 ^ 31) : inB (nI j) (nI lo) (nI hi) = decide (lo ≤ j ∧ j ≤ hi) := by
  unfold inB
  by_cases h1 : j < lo
  · rw [if_pos ((nI_ltI hj hl).mpr h1), decide_eq_false (by omega)]
  · rw [if_neg (fun z => h1 ((nI_ltI hj hl).mp z))]
    by_cases h2 : hi < j
    · rw [if_pos ((nI_ltI hh hj).mpr h2), decide_eq_false (by omega)]
    · rw [if_neg (fun z => h2 ((nI_ltI hh hj).mp z)), decide_eq_true (by omega)]
theorem m_layer_92' (hK : MoK K P M) (hi : i < 5) (hl : l.length ≤ 60) {S : StT} (hS : ∀ k, k < 5 → k ≠ i → MLay V M k (S.1 k)) (hW : WfS S) (hf : fltC l = -6) (hp : PadM V M l) (h2 : V (M + 2) i = l.getD 0 (-6)) (h3 : V (M + 3) i = l.getD 1 (-6) - 48) : ∃ V2, f_X7_layer_92 K P M (nI i) (bI (hmB (l.getD 1 (-6) - 48))) (M + 4) (nI i) (becL l).2.2.1 V = some (nI (becL l).2.2.2.length, V2) ∧ MLay V2 M i (becL l) ∧ (∀ k, k < 5 → k ≠ i → MLay V2 M k (S.1 k)) ∧ PadM V2 M [] ∧ MF M [4, 5, 6] [0] V V2 := by
  obtain ⟨w1, w2, w3, w4, w5⟩ := wf_bec hl hf
  have f1 : MF M [4, 5, 6] [] V (vset V (M + 4) i (becL l).2.2.1) := MF.cel (by decide) (by decide)
  have hlen : (l.drop (fhI (l.getD 1 (-6) - 48))).length = l.length - fhI (l.getD 1 (-6) - 48) := List.length_drop
  have hf3 : fhI (l.getD 1 (-6) - 48) ≤ 3 := by unfold fhI; split <;> omega
  have k102 : f_X7_layer_92 K P M (nI i) (bI (hmB (l.getD 1 (-6) - 48))) (M + 4) (nI i) (becL l).2.2.1 V = f_X7_layer_102 K P M (nI i) (nI (fhI (l.getD 1 (-6) - 48))) (vset V (M + 4) i (becL l).2.2.1) := by
    rw [f_X7_layer_92, sA_n hK.k4 hi (by decide)]
    unfold fhI
    cases hmB (l.getD 1 (-6) - 48) <;> rfl
  have hp1 := hp.mf f1 (by decide) (by decide)
  have hsub : nI l.length - nI (fhI (l.getD 1 (-6) - 48)) = nI (l.drop (fhI (l.getD 1 (-6) - 48))).length := by
    have := nI_subk (l.length - fhI (l.getD 1 (-6) - 48)) (fhI (l.getD 1 (-6) - 48))
    rw [Nat.sub_add_cancel w2] at this
    rw [this, hlen]
  have f2 : MF M [4, 5, 6] [] V (vset (vset V (M + 4) i (becL l).2.2.1) (M + 5) i (nI (l.drop (fhI (l.getD 1 (-6) - 48))).length)) := f1.tr (MF.cel (by decide) (by decide))
  obtain ⟨V2, e2, p2, q2, r2, f3, g2⟩ := m_layer_loop hK hi hl w2 w1.1 FU 0 (vset (vset V (M + 4) i (becL l).2.2.1) (M + 5) i (nI (l.drop (fhI (l.getD 1 (-6) - 48))).length)) (FU_lt (by omega)) (by omega) (hp.mf f2 (by decide) (by decide)) vset_at (fun j x hj => by simp at hj)
  rw [nI_0] at e2
  have c4 : V2 (M + 4) = vset V (M + 4) i (becL l).2.2.1 (M + 4) := by rw [f3.at (by decide) (by decide), vset_ne (by omega)]
  have c5 : V2 (M + 5) = vset (vset V (M + 4) i (becL l).2.2.1) (M + 5) i (nI (l.drop (fhI (l.getD 1 (-6) - 48))).length) (M + 5) := f3.at (by decide) (by decide)
  have cf : MF M [4, 5, 6] [0] V V2 := (f2.wd (by decide) (by decide)).tr (f3.wd (by decide) (by decide))
  refine ⟨V2, ?_, ⟨?_, ?_, ?_, ?_, r2⟩, fun k hk hki => ?_, p2, cf⟩
  · rw [k102, f_X7_layer_102, gR_k hK.1 hK.p5, gI_k hK.1, hp1.1, hsub, sA_n hK.k5 hi (by decide), e2]; rfl
  · rw [cf.at (by decide) (by decide), h2, w3]
  · rw [cf.at (by decide) (by decide), h3]; rfl
  · rw [c4, vset_at]
  · rw [c5, vset_at]; rfl
  · obtain ⟨a1, a2, a3, a4, a5⟩ := hS k hk hki
    refine ⟨by rw [cf.at (by decide) (by decide)]; exact a1, by rw [cf.at (by decide) (by decide)]; exact a2, by rw [c4, vset_k hki]; exact a3, by rw [c5, vset_k hki, vset_ne (by omega)]; exact a4, fun j x hj => ?_⟩
    have hj6 : j < 6 := by
      have := (List.getElem?_eq_some_iff.mp hj).1
      have := (hW.1 k hk).1
      omega
    rw [g2 _ (by omega), vset_ne (by omega), vset_ne (by omega)]
    exact a5 j x hj
theorem m_layer (hK : MoK K P M) (hi : i < 5) (hl : l.length ≤ 60) (hs : SgL l) {S : StT} (hS : MoS V M S) (hW : WfS S) (hf : fltC l = -6) (hp : PadM V M l) : ∃ V2, f_X7_layer K P M (nI i) V = some (nI (becL l).2.2.2.length, V2) ∧ MoS V2 M (updS S i (becL l)) ∧ PadM V2 M [] ∧ MF M [2, 3, 4, 5, 6] [0] V V2 := by
  obtain ⟨w1, w2, w3, w4, w5⟩ := wf_bec hl hf
  have f1 : MF M [2, 3] [] V (vset V (M + 2) i (l.getD 0 (-6))) := MF.cel (by decide) (by decide)
  have f2 : MF M [2, 3] [] V (vset (vset V (M + 2) i (l.getD 0 (-6))) (M + 3) i (l.getD 1 (-6) - 48)) := f1.tr (MF.cel (by decide) (by decide))
  have aI0 : ∀ (V1 : VT) (F : Int32 → Option (Int32 × VT)), PadM V1 M l → aI K V1 0 (M + 1) 0 F = F (l.getD 0 (-6)) := by
    intro V1 F hp1
    have := aI_n (F := F) (V := V1) (j := 0) hK.k1 (by decide) (by decide)
    rw [hp1.2.get (by omega) (-6), nI_0] at this
    exact this
  have aI1 : ∀ (V1 : VT) (F : Int32 → Option (Int32 × VT)), PadM V1 M l → aI K V1 0 (M + 1) 1 F = F (l.getD 1 (-6)) := by
    intro V1 F hp1
    have := aI_n (F := F) (V := V1) (j := 1) hK.k1 (by decide) (by decide)
    rw [hp1.2.get (by omega) (-6)] at this
    exact this
  have aI2 : ∀ (V1 : VT) (F : Int32 → Option (Int32 × VT)), PadM V1 M l → 2 < l.length → aI K V1 0 (M + 1) 2 F = F (l.getD 2 (-6)) := by
    intro V1 F hp1 h2
    have := aI_n (F := F) (V := V1) (j := 2) hK.k1 (by decide) (by decide)
    rw [hp1.2.get h2 (-6)] at this
    exact this
  have hp1 := hp.mf f1 (by decide) (by decide)
  have hp2 := hp.mf f2 (by decide) (by decide)
  have hin : inB (nI i) 0 4 = true := by
    have := inB_nI (j := i) (lo := 0) (hi := 4) (by omega) (by decide) (by decide)
    rw [nI_0] at this
    rw [show (4 : Int32) = nI 4 from rfl, this, decide_eq_true (by omega)]
  have oth : ∀ k, k < 5 → k ≠ i → MLay (vset (vset V (M + 2) i (l.getD 0 (-6))) (M + 3) i (l.getD 1 (-6) - 48)) M k (S.1 k) := by
    intro k hk hki
    obtain ⟨a1, a2, a3, a4, a5⟩ := hS.1 k hk
    exact ⟨by rw [vset_ne (by omega), vset_k hki]; exact a1, by rw [vset_k hki, vset_ne (by omega)]; exact a2, by rw [vset_ne (by omega), vset_ne (by omega)]; exact a3, by rw [vset_ne (by omega), vset_ne (by omega)]; exact a4, fun j x hj => by rw [vset_ne (by omega), vset_ne (by omega)]; exact a5 j x hj⟩
  have go : ∃ V2, f_X7_layer_92 K P M (nI i) (bI (hmB (l.getD 1 (-6) - 48))) (M + 4) (nI i) (becL l).2.2.1 (vset (vset V (M + 2) i (l.getD 0 (-6))) (M + 3) i (l.getD 1 (-6) - 48)) = some (nI (becL l).2.2.2.length, V2) ∧ MLay V2 M i (becL l) ∧ (∀ k, k < 5 → k ≠ i → MLay V2 M k (S.1 k)) ∧ PadM V2 M [] ∧ MF M [4, 5, 6] [0] (vset (vset V (M + 2) i (l.getD 0 (-6))) (M + 3) i (l.getD 1 (-6) - 48)) V2 := by
    exact m_layer_92' hK hi hl oth hW hf hp2 (by rw [vset_ne (by omega), vset_at]) vset_at
  obtain ⟨V2, e2, h2, o2, p2, f3⟩ := go
  have cf : MF M [2, 3, 4, 5, 6] [0] V V2 := (f2.wd (by decide) (by decide)).tr (f3.wd (by decide) (by decide))
  refine ⟨V2, ?_, ⟨fun k hk => ?_, ⟨by rw [cf.2 7 (by decide)]; exact hS.2.1.1, hS.2.1.2.keep (cf.at (by decide) (by decide))⟩, by rw [cf.2 9 (by decide)]; exact hS.2.2.1, hS.2.2.2.keep (cf.at (by decide) (by decide))⟩, p2, cf⟩
  · have h71 : f_X7_layer_71 K P M (nI i) (bI (hmB (l.getD 1 (-6) - 48))) (vset (vset V (M + 2) i (l.getD 0 (-6))) (M + 3) i (l.getD 1 (-6) - 48)) = some (nI (becL l).2.2.2.length, V2) := by
      rw [f_X7_layer_71, gR_k hK.1 hK.p4]
      have hmk : (becL l).2.2.1 = if hmB (l.getD 1 (-6) - 48) = true then l.getD 2 (-6) else -6 := rfl
      cases hq : hmB (l.getD 1 (-6) - 48) with
      | false =>
        rw [hq] at e2 hmk
        rw [if_neg (by decide)] at hmk
        rw [hmk] at e2
        rw [show bI false = 0 from rfl] at e2 ⊢
        rw [if_pos rfl]; exact e2
      | true =>
        rw [hq] at e2 hmk
        rw [if_pos rfl] at hmk
        rw [hmk] at e2
        rw [show bI true = 1 from rfl] at e2 ⊢
        rw [if_neg (by decide), gR_k hK.1 hK.p1, aI2 _ _ hp2 (w4 hq)]; exact e2
    rw [f_X7_layer, cS_k (m_isLayer _ _), hin, show bI true = 1 from rfl, if_neg (by decide), cV_k hK.1 (m_fault hK hl hs hp), hf, if_pos (by decide), gR_k hK.1 hK.p2, gR_k hK.1 hK.p1, aI0 _ _ hp, sA_n hK.k2 hi (by decide), gR_k hK.1 hK.p3, gR_k hK.1 hK.p1, aI1 _ _ hp1, sA_n hK.k3 hi (by decide), gR_k hK.1 hK.p3, aI_n hK.k3 hi (by decide), vset_at, gR_k hK.1 hK.p3, aI_n hK.k3 hi (by decide), vset_at]
    rcases w1.2.2.1 with h | h | h | h
    · have h' : l.getD 1 (-6) - 48 = 0 := h
      rw [h'] at h71 ⊢
      exact h71
    · have h' : l.getD 1 (-6) - 48 = 1 := h
      rw [h'] at h71 ⊢
      exact h71
    · have h' : l.getD 1 (-6) - 48 = 2 := h
      rw [h'] at h71 ⊢
      exact h71
    · have h' : l.getD 1 (-6) - 48 = 3 := h
      rw [h'] at h71 ⊢
      exact h71
  · show MLay V2 M k (if k = i then becL l else S.1 k)
    split
    · rename_i z; rw [z]; exact h2
    · rename_i z; exact o2 k hk z
end MO5
