/-! PURE PART, 11: texts laid, kept; how a text comes back -/
section MO6
variable {K : KT} {P : PT} {V : VT} {M i : Nat} {y : LayT} {pad t f : List Int32}
theorem m_layPad_loop (hK : MoK K P M) (hl : pad.length ≤ 60) :
    ∀ (n k : Nat) (V : VT), 60 - k < n → k ≤ pad.length → PadM V M pad → ArV V (M + 9) (pad.take k) → V M 11 = nI pad.length → ∃ V2, f_X7_layPad_10 K P n M (nI k) V = some ((), V2) ∧ RowM V2 M pad ∧ MF M [9] [] V V2 := by
  intro n
  induction n with
  | zero => intro k V h; omega
  | succ n ih =>
    intro k V hn hk hp hr h11
    rw [f_X7_layPad_10, gI_k hK.1, hp.1]
    by_cases h : k < pad.length
    · rw [if_pos ((nI_ltI (by omega) (by omega)).mpr h), gR_k hK.1 hK.p12, gR_k hK.1 hK.p1, aI_n hK.k1 (by omega) (by decide), sA_n hK.k12 (by omega) (by decide), nI_1, hp.2.get h (-6)]
      have f1 : MF M [9] [] V (vset V (M + 9) k (pad.getD k (-6))) := MF.cel (by decide) (by decide)
      obtain ⟨V3, e3, h3, f3⟩ := ih (k + 1) _ (by omega) (by omega) (hp.mf f1 (by decide) (by decide)) (hr.next h (-6)) (by rw [vset_ne (by omega)]; exact h11)
      exact ⟨V3, e3, h3, f1.tr f3⟩
    · rw [if_neg (fun z => h ((nI_ltI (by omega) (by omega)).mp z))]
      rw [List.take_of_length_le (by omega)] at hr
      exact ⟨V, rfl, ⟨h11, hr⟩, MF.rf⟩
theorem m_layPad (hK : MoK K P M) (hl : pad.length ≤ 60) (hp : PadM V M pad) : ∃ V3, f_X7_layPad K P M V = some ((), V3) ∧ RowM V3 M pad ∧ MF M AW JP V V3 := by
  have f1 : MF M [] [11] V (vset V M 11 (nI pad.length)) := MF.fld (by decide)
  obtain ⟨V3, e3, h3, f3⟩ := m_layPad_loop hK hl FU 0 (vset V M 11 (nI pad.length)) (FU_lt (by omega)) (by omega) (hp.mf f1 (by decide) (by decide)) (by rw [List.take_zero]; exact ArV.nil) vset_at
  rw [nI_0] at e3
  exact ⟨V3, by rw [f_X7_layPad, gI_k hK.1, hp.1, sI_k hK.1, e3], h3, (f1.wd (by decide) (by decide)).tr (f3.wd (by decide) (by decide))⟩
abbrev AX : List Nat := [9, 10, 11, 12, 13, 14]
abbrev JX : List Nat := [11, 14, 16]
def FirM (V : VT) (M : Nat) (f : List Int32) : Prop := V M 16 = nI f.length ∧ ArV V (M + 11) f
theorem FirM.mf {V V2 : VT} {M : Nat} {A J : List Nat} {f : List Int32} (h : FirM V M f) (hf : MF M A J V V2) (hA : 11 ∉ A) (hJ : 16 ∉ J) : FirM V2 M f := ⟨by rw [hf.2 16 hJ]; exact h.1, h.2.keep (hf.at hA (by decide))⟩
theorem m_keep_loop (hK : MoK K P M) {S : StT} (hl : S.2.2.length ≤ 12) :
    ∀ (n k : Nat) (V : VT), 12 - k < n → k ≤ S.2.2.length → MoS V M S → ArV V (M + 11) (S.2.2.take k) → V M 16 = nI S.2.2.length → ∃ V2, f_X7_keepText_14 K P n M (nI k) V = some ((), V2) ∧ FirM V2 M S.2.2 ∧ MF M [11] [] V V2 := by
  intro n
  induction n with
  | zero => intro k V h; omega
  | succ n ih =>
    intro k V hn hk hS hr h16
    rw [f_X7_keepText_14, gI_k hK.1, hS.2.2.1]
    by_cases h : k < S.2.2.length
    · rw [if_pos ((nI_ltI (by omega) (by omega)).mpr h), gR_k hK.1 hK.p15, gR_k hK.1 hK.p10, aI_n hK.k10 (by omega) (by decide), sA_n hK.k15 (by omega) (by decide), nI_1, hS.2.2.2.get h (-6)]
      have f1 : MF M [11] [] V (vset V (M + 11) k (S.2.2.getD k (-6))) := MF.cel (by decide) (by decide)
      obtain ⟨V3, e3, h3, f3⟩ := ih (k + 1) _ (by omega) (by omega) (hS.mf f1 (by decide) (by decide)) (hr.next h (-6)) (by rw [vset_ne (by omega)]; exact h16)
      exact ⟨V3, e3, h3, f1.tr f3⟩
    · rw [if_neg (fun z => h ((nI_ltI (by omega) (by omega)).mp z))]
      rw [List.take_of_length_le (by omega)] at hr
      exact ⟨V, rfl, ⟨h16, hr⟩, MF.rf⟩
theorem m_keepText (hK : MoK K P M) {S : StT} (hS : MoS V M S) (hl : S.2.2.length ≤ 12) : ∃ V3, f_X7_keepText K P M V = some ((), V3) ∧ RowM V3 M S.2.2 ∧ FirM V3 M S.2.2 ∧ MF M AX JX V V3 := by
  obtain ⟨V1, e1, h1, f1⟩ := m_layText hK (V := V) hS hl
  have hS1 := hS.mf f1 (by decide) (by decide)
  have f2 : MF M [] [16] V1 (vset V1 M 16 (nI S.2.2.length)) := MF.fld (by decide)
  obtain ⟨V3, e3, h3, f3⟩ := m_keep_loop hK hl FU 0 (vset V1 M 16 (nI S.2.2.length)) (FU_lt (by omega)) (by omega) (hS1.mf f2 (by decide) (by decide)) (by rw [List.take_zero]; exact ArV.nil) vset_at
  rw [nI_0] at e3
  exact ⟨V3, by rw [f_X7_keepText, cV_k hK.1 e1, gI_k hK.1, hS1.2.2.1, sI_k hK.1, e3], (h1.mf f2 (by decide) (by decide)).mf f3 (by decide) (by decide), h3, ((f1.wd (by decide) (by decide)).tr (f2.wd (by decide) (by decide))).tr (f3.wd (by decide) (by decide))⟩
def howL (ly : Nat → LayT) (c : List Nat) (o f : List Int32) : Int32 := match readL ly c c.length o with
  | .inl _ => 2
  | .inr x => if x = f then 0 else 1
theorem m_how_loop (hK : MoK K P M) (hl : t.length ≤ 400) (hr : RowM V M t) (hf : FirM V M f) (hf12 : f.length ≤ 12) (hll : t.length = f.length) :
    ∀ (n k : Nat) (b : Bool), 12 - k + 1 < n → k ≤ f.length → f_X7_howBack_28 K P n M (bI b) (nI k) V = some (if b = true ∧ t.drop k = f.drop k then 0 else 1, V) := by
  intro n
  induction n with
  | zero => intro k b h; omega
  | succ n ih =>
    intro k b hn hk
    rw [f_X7_howBack_28, gI_k hK.1, hf.1]
    by_cases h : k < f.length
    · rw [if_pos ((nI_ltI (by omega) (by omega)).mpr h)]
      cases b with
      | false => rw [show bI false = 0 from rfl, if_pos rfl, f_X7_howBack_67, if_pos rfl, if_neg (by simp)]
      | true =>
        rw [show bI true = 1 from rfl, if_neg (by decide), gR_k hK.1 hK.p12, aI_n hK.k12 (by omega) (by decide), hr.2.get (by omega) (-6), gR_k hK.1 hK.p15, aI_n hK.k15 (by omega) (by decide), hf.2.get h (-6), drop_next (l := t) (by omega) (-6), drop_next h (-6)]
        by_cases hx : t.getD k (-6) = f.getD k (-6)
        · rw [if_pos hx, f_X7_howBack_60, nI_1]
          have := ih (k + 1) true (by omega) (by omega)
          rw [show bI true = 1 from rfl] at this
          rw [this, hx]
          simp
        · rw [if_neg hx, f_X7_howBack_60, nI_1]
          have := ih (k + 1) false (by omega) (by omega)
          rw [show bI false = 0 from rfl] at this
          rw [this, if_neg (by simp), if_neg (fun z => hx (List.cons.inj z.2).1)]
    · rw [if_neg (fun z => h ((nI_ltI (by omega) (by omega)).mp z)), f_X7_howBack_67, List.drop_eq_nil_of_le (by omega), List.drop_eq_nil_of_le (by omega)]
      cases b with
      | false => rw [show bI false = 0 from rfl, if_pos rfl, if_neg (by simp)]
      | true => rw [show bI true = 1 from rfl, if_neg (by decide), if_pos ⟨rfl, rfl⟩]
theorem m_howBackW (hK : MoK K P M) {S : StT} (hW : WfS S) (hS : MoS V M S) (hr : RowM V M t) (ht : t.length ≤ 400) (hs : SgL t) (hf : FirM V M f) (hf12 : f.length ≤ 12) :
    ∃ V2, f_X7_howBack K P M V = some (howL S.1 S.2.1 t f, V2) ∧ MF M AW JW V V2 := by
  obtain ⟨V1, res, e1, h1, f1⟩ := m_readBack hK hW hS hr ht hs
  have f1x : MF M AW JW V V1 := f1
  have hf1 := hf.mf f1 (by decide) (by decide)
  rw [f_X7_howBack, cV_k hK.1 e1]
  unfold howL
  cases hx : readL S.1 S.2.1 S.2.1.length t with
  | inl kb =>
    rw [hx] at h1
    obtain ⟨k, b⟩ := kb
    obtain ⟨rfl, h2, c, hc, rfl⟩ := h1
    rw [if_neg (nI_pos (by omega))]
    exact ⟨V1, rfl, f1x⟩
  | inr o =>
    rw [hx] at h1
    obtain ⟨rfl, hro, hso, hol⟩ := h1
    rw [if_pos (by decide), gI_k hK.1, hro.1, gI_k hK.1, hf1.1]
    by_cases hl : o.length = f.length
    · have lp := m_how_loop hK hol hro hf1 hf12 hl FU 0 true (FU_lt (by omega)) (by omega)
      rw [nI_0, show bI true = 1 from rfl] at lp
      rw [if_pos (by rw [hl]), f_X7_howBack_25, lp]
      refine ⟨V1, ?_, f1x⟩
      simp only [true_and, List.drop_zero]
    · rw [if_neg (fun z => hl ((nI_eq (by omega) (by omega)).mp z)), f_X7_howBack_25]
      have lp : f_X7_howBack_28 K P FU M 0 0 V1 = some (1, V1) := by
        have hfu : FU = (FU - 1) + 1 := by unfold FU; omega
        rw [hfu, f_X7_howBack_28, gI_k hK.1, if_pos rfl, f_X7_howBack_67, if_pos rfl]
        simp
      rw [lp]
      refine ⟨V1, ?_, f1x⟩
      show some ((1 : Int32), V1) = some ((if o = f then 0 else 1), V1)
      rw [if_neg (show ¬ o = f from fun z => hl (by rw [z]))]
theorem m_howBack (hK : MoK K P M) {S : StT} (hW : WfS S) (hS : MoS V M S) (hr : RowM V M t) (ht : t.length ≤ 400) (hs : SgL t) (hf : FirM V M f) (hf12 : f.length ≤ 12) :
    ∃ V2, f_X7_howBack K P M V = some (howL S.1 S.2.1 t f, V2) ∧ MF M AX JX V V2 := by
  obtain ⟨V2, e2, f2⟩ := m_howBackW hK hW hS hr ht hs hf hf12
  exact ⟨V2, e2, f2.wd (by decide) (by decide)⟩
theorem m_isAsAtFirst (hK : MoK K P M) (hi : i < 5) (hw : wfL y) (hV : MLay V M i y) : f_X7_isAsAtFirst K P M (nI i) V = some (bI (afB y), V) := by
  rw [f_X7_isAsAtFirst, cV_k hK.1 (m_hasMark hK hi hw hV)]
  unfold afB
  by_cases h : y.1 = -6
  · rw [decide_eq_false (fun z => z h), show bI false = 0 from rfl, if_pos rfl, decide_eq_true h, gR_k hK.1 hK.p3, aI_n hK.k3 hi (by decide), hV.2.1]
    by_cases h2 : y.2.1 = 0
    · rw [if_pos h2, decide_eq_true h2, gR_k hK.1 hK.p5, aI_n hK.k5 hi (by decide), hV.2.2.2.1]
      have hl := hw.1
      by_cases h3 : y.2.2.2 = []
      · rw [h3]; rfl
      · have : 0 < y.2.2.2.length := List.length_pos_iff.mpr h3
        rw [if_neg (nI_ne0 this (by omega)), decide_eq_false h3]; rfl
    · rw [if_neg h2, decide_eq_false h2]; rfl
  · rw [decide_eq_true h, show bI true = 1 from rfl, if_neg (by decide), decide_eq_false h]; rfl
end MO6
theorem thruL_err (ly : Nat → LayT) (fg : Int32) : ∀ (c : List Nat) (k : Nat) (t : List Int32) (e : Int32) (q : Nat), thruL ly fg c k t = .inl (e, q) → (e = -5 ∨ e = -7) ∧ q < k + c.length
  | [], k, t, e, q, h => by unfold thruL at h; cases h
  | c :: cs, k, t, e, q, h => by
    unfold thruL at h
    split at h
    · cases h; exact ⟨Or.inl rfl, by simp⟩
    · split at h
      · cases h; exact ⟨Or.inr rfl, by simp⟩
      · have := thruL_err ly fg cs (k + 1) _ e q h
        exact ⟨this.1, by have := this.2; simp only [List.length_cons]; omega⟩
theorem err_neg {e : Int32} (h : e = -5 ∨ e = -7) : e < 0 := by rcases h with rfl | rfl <;> decide
theorem thruL_ok (ly : Nat → LayT) (fg : Int32) (hW : ∀ i, i < 5 → wfL (ly i)) : ∀ (c : List Nat) (k : Nat) (t : List Int32) (o : List Int32), (∀ x ∈ c, x < 5) → t.length ≤ 400 → SgL t → thruL ly fg c k t = .inr o → o.length ≤ 400 ∧ SgL o ∧ t.length ≤ o.length
  | [], k, t, o, _, ht, hs, h => by unfold thruL at h; cases h; exact ⟨ht, hs, Nat.le_refl _⟩
  | c :: cs, k, t, o, hc, ht, hs, h => by
    unfold thruL at h
    have hc5 := hc c List.mem_cons_self
    split at h
    · cases h
    · rename_i o' ho
      split at h
      · cases h
      · have := thruL_ok ly fg hW cs (k + 1) o' o (fun x hx => hc x (List.mem_cons_of_mem _ hx)) (by omega) (putL_sg (hW c hc5) hs ho) h
        refine ⟨this.1, this.2.1, Nat.le_trans ?_ this.2.2⟩
        -- a put never shortens
        have key : ∀ (t b : List Int32), encT (ly c) (decide (nI k = fg)) t = some b → t.length ≤ b.length := by
          intro t
          induction t with
          | nil => intro b _; simp
          | cons s t ih =>
            intro b hb
            unfold encT at hb
            split at hb
            · split at hb
              · cases hb
              · cases hq : encT (ly c) (decide (nI k = fg)) t with
                | none => rw [hq] at hb; cases hb
                | some b' =>
                  rw [hq] at hb
                  cases hb
                  have := ih b' hq
                  have he : 1 ≤ (enc1 (ly c) s).length := by
                    unfold enc1
                    split
                    · simp
                    · split <;> simp
                  simp only [List.length_append, List.length_cons]
                  omega
            · cases hq : encT (ly c) (decide (nI k = fg)) t with
              | none => rw [hq] at hb; cases hb
              | some b' =>
                rw [hq] at hb
                cases hb
                have := ih b' hq
                simp only [List.length_cons]
                omega
        unfold putL at ho
        cases hq : encT (ly c) (decide (nI k = fg)) t with
        | none => rw [hq] at ho; cases ho
        | some b =>
          rw [hq] at ho
          cases ho
          have := key t b hq
          simp only [List.length_append]
          omega
