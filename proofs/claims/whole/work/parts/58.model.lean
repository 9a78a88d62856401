/-! PURE PART, 9: the reference's pad, its fault, a layer told -/
def PadM (V : VT) (M : Nat) (pad : List Int32) : Prop := V M 0 = nI pad.length ∧ ArV V (M + 1) pad
theorem PadM.mf {V V2 : VT} {M : Nat} {A J : List Nat} {pad : List Int32} (h : PadM V M pad) (hf : MF M A J V V2) (hA : 1 ∉ A) (hJ : 0 ∉ J) : PadM V2 M pad := ⟨by rw [hf.2 0 hJ]; exact h.1, h.2.keep (hf.at hA (by decide))⟩
theorem vdg_nsg {c : Int32} : vdg c < 0 ↔ (inB c 48 57 = false ∧ inB c 97 102 = false) := by
  cases h : inB c 48 57 with
  | true => exact ⟨fun z => absurd z (vdg_dig h).2, fun z => absurd z.1 (by decide)⟩
  | false =>
    rw [vdg_not h]
    cases h2 : inB c 97 102 with
    | true => exact ⟨fun z => absurd z (vd2_hex h2).2, fun z => absurd z.2 (by decide)⟩
    | false => rw [vd2_not h2]; exact ⟨fun _ => ⟨rfl, rfl⟩, fun _ => by decide⟩
theorem cwB_w {w m : Int32} (h : cwB w m = true) : (w = 48 ∨ w = 49 ∨ w = 50 ∨ w = 51) ∧ (w = 50 → m ≠ 45) := by
  unfold cwB at h
  by_cases h5 : w = 50
  · rw [if_pos h5] at h
    refine ⟨Or.inr (Or.inr (Or.inl h5)), fun _ hm => ?_⟩
    rw [decide_eq_true hm] at h; cases h
  · rw [if_neg h5] at h
    refine ⟨?_, fun z => absurd z h5⟩
    split at h
    · cases h
    · rename_i a
      split at h
      · cases h
      · rename_i b
        obtain ⟨n, h1, h2, rfl⟩ := i32_in (lo := 48) (hi := 51) (by decide) (by decide) a b
        have : n = 48 ∨ n = 49 ∨ n = 50 ∨ n = 51 := by omega
        rcases this with rfl | rfl | rfl | rfl
        · exact Or.inl rfl
        · exact Or.inr (Or.inl rfl)
        · exact Or.inr (Or.inr (Or.inl rfl))
        · exact Or.inr (Or.inr (Or.inr rfl))
theorem cwB_of {w m : Int32} (h : w = 48 ∨ w = 49 ∨ w = 50 ∨ w = 51) (hm : w = 50 → m ≠ 45) : cwB w m = true := by
  unfold cwB
  rcases h with rfl | rfl | rfl | rfl
  · rfl
  · rfl
  · rw [if_pos rfl, decide_eq_false (hm rfl)]; rfl
  · rfl
theorem nI_subk (a b : Nat) : nI (a + b) - nI b = nI a := by rw [← nI_add, Int32.add_sub_cancel]
section MO4
variable {K : KT} {P : PT} {V : VT} {M : Nat} {l : List Int32}
theorem m_isDigit (c : Int32) (V : VT) : f_X7_isDigit K P c V = some (bI (!decide (vdg c < 0)), V) := by
  rw [f_X7_isDigit, cS_k (m_in _ _ _ _)]
  cases h : inB c 48 57 with
  | true => rw [show bI true = 1 from rfl, if_neg (by decide), f_X7_isDigit_22, decide_eq_false (vdg_dig h).2]; rfl
  | false =>
    rw [show bI false = 0 from rfl, if_pos rfl, cS_k (m_in _ _ _ _)]
    cases h2 : inB c 97 102 with
    | true => rw [show bI true = 1 from rfl, if_neg (by decide), f_X7_isDigit_22, decide_eq_false (fun z => absurd (vdg_nsg.mp z).2 (by rw [h2]; decide))]; rfl
    | false => rw [show bI false = 0 from rfl, if_pos rfl, decide_eq_true (vdg_nsg.mpr ⟨h, h2⟩)]; rfl
theorem m_new_loop (hK : MoK K P M) (hl : l.length ≤ 60) (hp : PadM V M l) {j : Nat} (hj : j < l.length) (h1 : l.getD 1 (-6) ≠ l.getD j (-6)) :
    ∀ (n k : Nat) (b : Bool), j - k < n → k ≤ j → f_X7_isNew_35 K P n M (nI j) (bI b) (nI k) V = some (bI (b && !decide (l.getD j (-6) ∈ (l.take j).drop k)), V) := by
  intro n
  induction n with
  | zero => intro k b h; omega
  | succ n ih =>
    intro k b hn hk
    rw [f_X7_isNew_35]
    by_cases h : k < j
    · have hlt : k < (l.take j).length := by rw [List.length_take]; omega
      have hg : (l.take j).getD k (-6) = l.getD k (-6) := by
        rw [List.getD_eq_getElem?_getD, List.getD_eq_getElem?_getD, List.getElem?_take, if_pos h]
      rw [if_pos ((nI_ltI (by omega) (by omega)).mpr h), drop_next hlt (-6), hg]
      have go : ∀ b2 : Bool, f_X7_isNew_69 K P (f_X7_isNew_35 K P n) M (nI j) (nI k) (bI b2) V = some (bI (b2 && !decide (l.getD j (-6) ∈ (l.take j).drop (k + 1))), V) := by
        intro b2
        rw [f_X7_isNew_69, nI_1]; exact ih (k + 1) b2 (by omega) (by omega)
      have g0 := go false
      have g1 := go true
      rw [show bI false = 0 from rfl] at g0
      rw [show bI true = 1 from rfl] at g1
      have hne : ∀ z : ¬ l.getD k (-6) = l.getD j (-6), decide (l.getD j (-6) ∈ l.getD k (-6) :: (l.take j).drop (k + 1)) = decide (l.getD j (-6) ∈ (l.take j).drop (k + 1)) := by
        intro z
        have z2 : ¬ l.getD j (-6) = l.getD k (-6) := fun e => z e.symm
        simp only [List.mem_cons, z2, false_or]
      cases b with
      | false => rw [show bI false = 0 from rfl, if_pos rfl, f_X7_isNew_68, g0]; rfl
      | true =>
        rw [show bI true = 1 from rfl, if_neg (by decide)]
        by_cases hk1 : k = 1
        · subst hk1
          rw [if_pos (show nI 1 = 1 from rfl), f_X7_isNew_64, g1, hne h1]
        · rw [if_neg (show ¬ (nI k = 1) from fun z => hk1 ((nI_eq (by omega) (by decide)).mp (show nI k = nI 1 from z))), gR_k hK.1 hK.p1, aI_n hK.k1 (by omega) (by decide), hp.2.get (by omega) (-6), gR_k hK.1 hK.p1, aI_n hK.k1 (by omega) (by decide), hp.2.get (by omega) (-6)]
          by_cases hx : l.getD k (-6) = l.getD j (-6)
          · rw [if_pos hx, f_X7_isNew_68, g0, hx, decide_eq_true (List.mem_cons_self)]; rfl
          · rw [if_neg hx, f_X7_isNew_64, g1, hne hx]
    · rw [if_neg (fun z => h ((nI_ltI (by omega) (by omega)).mp z)), List.drop_eq_nil_of_le (by rw [List.length_take]; omega), rB_bI]
      simp
theorem m_isNew (hK : MoK K P M) (hl : l.length ≤ 60) (hs : SgL l) (hp : PadM V M l) {j : Nat} (hj : j < l.length) (hj2 : 2 ≤ j) (hw : ¬ vdg (l.getD 1 (-6)) < 0) : f_X7_isNew K P M (nI j) V = some (bI (nsB l j), V) := by
  rw [f_X7_isNew, gR_k hK.1 hK.p1, aI_n hK.k1 (by omega) (by decide), hp.2.get (by omega) (-6), cS_k (m_isDigit _ _)]
  unfold nsB cmB
  rw [sg_at hs hj]
  by_cases hd : vdg (l.getD j (-6)) < 0
  · have h1 : l.getD 1 (-6) ≠ l.getD j (-6) := fun e => hw (by rw [e]; exact hd)
    have lp := m_new_loop hK hl hp hj h1 FU 0 true (FU_lt (by omega)) (by omega)
    have lp0 := m_new_loop hK hl hp hj h1 FU 0 false (FU_lt (by omega)) (by omega)
    rw [nI_0, List.drop_zero] at lp lp0
    rw [show bI true = 1 from rfl] at lp
    rw [show bI false = 0 from rfl] at lp0
    rw [decide_eq_true hd, show bI (!true) = 0 from rfl, if_pos rfl, gR_k hK.1 hK.p1, aI_n hK.k1 (by omega) (by decide), hp.2.get (by omega) (-6)]
    by_cases h45 : l.getD j (-6) = 45
    · rw [if_pos h45, if_neg (nI_ne0 (by omega) (by omega)), f_X7_isNew_31, f_X7_isNew_32, lp0, decide_eq_true h45]; rfl
    · rw [if_neg h45, f_X7_isNew_27, f_X7_isNew_32, lp, decide_eq_false h45]; rfl
  · have h := decide_eq_false hd
    rw [h, show bI (!false) = 1 from rfl, if_neg (by decide), f_X7_isNew_31, f_X7_isNew_32]
    -- the loop from 0 answers 0 whatever
    have z : ∀ (n k : Nat), j - k < n → k ≤ j → f_X7_isNew_35 K P n M (nI j) 0 (nI k) V = some (0, V) := by
      intro n
      induction n with
      | zero => intro k h; omega
      | succ n ih =>
        intro k hn hk
        rw [f_X7_isNew_35]
        by_cases hkj : k < j
        · rw [if_pos ((nI_ltI (by omega) (by omega)).mpr hkj), if_pos rfl, f_X7_isNew_68, f_X7_isNew_69, nI_1]
          exact ih (k + 1) (by omega) (by omega)
        · rw [if_neg (fun z => hkj ((nI_ltI (by omega) (by omega)).mp z))]; rfl
    have := z FU 0 (FU_lt (by omega)) (by omega)
    rw [nI_0] at this
    rw [this]; rfl
theorem m_isNew0 (hK : MoK K P M) (hs : SgL l) (hp : PadM V M l) (hj : 0 < l.length) : f_X7_isNew K P M 0 V = some (bI (cmB (l.getD 0 (-6))), V) := by
  have hf : V (M + 1) 0 = l.getD 0 (-6) := hp.2.get hj (-6)
  have a0 : ∀ F : Int32 → Option (Int32 × VT), aI K V 0 (M + 1) 0 F = F (l.getD 0 (-6)) := by
    intro F
    have := aI_n (F := F) (V := V) hK.k1 (show 0 < 60 by decide) (by decide)
    rw [nI_0] at this
    rw [this, hf]
  rw [f_X7_isNew, gR_k hK.1 hK.p1, a0, cS_k (m_isDigit _ _)]
  unfold cmB
  rw [sg_at hs hj]
  have e : ∀ b : Bool, f_X7_isNew_35 K P FU M 0 (bI b) 0 V = some (bI b, V) := by
    intro b
    have : FU = (FU - 1) + 1 := by unfold FU; omega
    rw [this, f_X7_isNew_35, if_neg (by decide), rB_bI]
  have e0 := e false
  have e1 := e true
  rw [show bI false = 0 from rfl] at e0
  rw [show bI true = 1 from rfl] at e1
  by_cases hd : vdg (l.getD 0 (-6)) < 0
  · rw [decide_eq_true hd, show bI (!true) = 0 from rfl, if_pos rfl, gR_k hK.1 hK.p1, a0]
    split
    · rw [if_pos rfl, f_X7_isNew_27, f_X7_isNew_32, e1]; rfl
    · rw [f_X7_isNew_27, f_X7_isNew_32, e1]; rfl
  · rw [decide_eq_false hd, show bI (!false) = 1 from rfl, if_neg (by decide), f_X7_isNew_31, f_X7_isNew_32, e0]; rfl
def limF (w : Int32) : Nat := fhI (w - 48) + if w - 48 = 2 then 0 else 6
theorem m_fault_loop (hK : MoK K P M) (hl : l.length ≤ 60) (hs : SgL l) (hp : PadM V M l) (hw : l.getD 1 (-6) = 48 ∨ l.getD 1 (-6) = 49 ∨ l.getD 1 (-6) = 50 ∨ l.getD 1 (-6) = 51) (h3 : 2 < l.length) :
    ∀ (n j : Nat), l.length - j < n → 2 ≤ j → j ≤ l.length → f_X7_faultOf_2 K P n M (nI j) V = some (flt1 l (limF (l.getD 1 (-6))) (n + 1) j, V) := by
  have hd : ¬ vdg (l.getD 1 (-6)) < 0 := by rcases hw with h | h | h | h <;> rw [h] <;> decide
  intro n
  induction n with
  | zero => intro j h; omega
  | succ n ih =>
    intro j hn hj hjl
    have a1 : ∀ F : Int32 → Option (Int32 × VT), aI K V 0 (M + 1) 1 F = F (l.getD 1 (-6)) := by
      intro F
      have := aI_n (F := F) (V := V) (j := 1) hK.k1 (by decide) (by decide)
      rw [hp.2.get (by omega) (-6)] at this
      exact this
    rw [f_X7_faultOf_2, gI_k hK.1, hp.1]
    unfold flt1
    by_cases h : j < l.length
    · rw [if_pos ((nI_ltI (by omega) (by omega)).mpr h), if_pos h, if_neg (show ¬ (nI j = 1) from fun z => absurd ((nI_eq (by omega) (by decide)).mp (show nI j = nI 1 from z)) (by omega)), if_pos (show 1 < nI j from (nI_ltI (a := 1) (by decide) (by omega)).mpr (by omega)), gR_k hK.1 hK.p1, a1]
      -- the sign is new, and there is room
      have key : ∀ L : Nat, L < 100 → f_X7_faultOf_123 K P (f_X7_faultOf_2 K P n) M (nI j) (nI L) V = some (if j < L + 2 then (if nsB l j = true then flt1 l (limF (l.getD 1 (-6))) (n + 1) (j + 1) else nI j) else nI j, V) := by
        intro L hL
        have h2 : ¬ nI j < 2 := fun z => absurd ((nI_ltI (b := 2) (by omega) (by decide)).mp z) (by omega)
        have hsub : nI j - 2 = nI (j - 2) := by
          have := nI_subk (j - 2) 2
          rw [show j - 2 + 2 = j by omega] at this
          exact this
        rw [f_X7_faultOf_123, cV_k hK.1 (m_isNew hK hl hs hp h hj hd)]
        cases hn : nsB l j with
        | false =>
          rw [show bI false = 0 from rfl, if_pos rfl, f_X7_faultOf_150, f_X7_faultOf_151, f_X7_faultOf_152, if_pos rfl]; simp
        | true =>
          rw [show bI true = 1 from rfl, if_neg (by decide), if_neg h2, hsub, if_pos (show true = true from rfl)]
          by_cases hL2 : j < L + 2
          · rw [if_pos ((nI_ltI (by omega) (by omega)).mpr (by omega)), f_X7_faultOf_146, f_X7_faultOf_151, f_X7_faultOf_152, if_neg (by decide), nI_1, if_pos hL2]
            exact ih (j + 1) (by omega) (by omega) (by omega)
          · rw [if_neg (fun z => hL2 (by have := (nI_ltI (by omega) (by omega)).mp z; omega)), f_X7_faultOf_150, f_X7_faultOf_151, f_X7_faultOf_152, if_pos rfl, if_neg hL2]
      have h2 : ¬ nI j < 2 := fun z => absurd ((nI_ltI (b := 2) (by omega) (by decide)).mp z) (by omega)
      rcases hw with hw | hw | hw | hw
      · rw [hw] at key ⊢
        rw [if_neg (by decide), gR_k hK.1 hK.p1, a1, hw, if_neg (by decide), f_X7_faultOf_93, f_X7_faultOf_94, if_neg h2, gR_k hK.1 hK.p1, a1, hw, if_neg (by decide)]
        exact key 6 (by omega)
      · rw [hw] at key ⊢
        rw [if_pos (by decide), f_X7_faultOf_89, f_X7_faultOf_94, if_neg h2, gR_k hK.1 hK.p1, a1, hw, if_neg (by decide)]
        exact key 7 (by omega)
      · rw [hw] at key ⊢
        rw [if_neg (by decide), gR_k hK.1 hK.p1, a1, hw, if_neg (by decide), f_X7_faultOf_93, f_X7_faultOf_94, if_neg h2, gR_k hK.1 hK.p1, a1, hw, if_pos rfl]
        exact key 0 (by omega)
      · rw [hw] at key ⊢
        rw [if_neg (by decide), gR_k hK.1 hK.p1, a1, hw, if_pos (by decide), f_X7_faultOf_89, f_X7_faultOf_94, if_neg h2, gR_k hK.1 hK.p1, a1, hw, if_neg (by decide)]
        exact key 7 (by omega)
    · rw [if_neg (fun z => h ((nI_ltI (by omega) (by omega)).mp z)), if_neg h, gI_k hK.1, hp.1, if_pos (show 1 < nI l.length from (nI_ltI (a := 1) (by decide) (by omega)).mpr (by omega)), gI_k hK.1, hp.1, if_pos (show 2 < nI l.length from (nI_ltI (a := 2) (by decide) (by omega)).mpr (by omega)), f_X7_faultOf_202, f_X7_faultOf_207, if_neg (by decide)]
theorem m_fault (hK : MoK K P M) (hl : l.length ≤ 60) (hs : SgL l) (hp : PadM V M l) : f_X7_faultOf K P M V = some (fltC l, V) := by
  have hfu : FU = (FU - 3) + 1 + 1 + 1 := by unfold FU; omega
  have hfb : 100 < FU - 3 := by unfold FU; omega
  rw [f_X7_faultOf, hfu, f_X7_faultOf_2, gI_k hK.1, hp.1]
  unfold fltC
  by_cases h0 : 0 < l.length
  · have b0 : (0 : Int32) < nI l.length := by rw [← nI_0]; exact (nI_ltI (by decide) (by omega)).mpr h0
    rw [if_pos b0, if_neg (by decide), if_neg (by decide), f_X7_faultOf_93, f_X7_faultOf_94, if_pos (by decide), f_X7_faultOf_123, cV_k hK.1 (m_isNew0 hK hs hp h0)]
    cases hm : cmB (l.getD 0 (-6)) with
    | false => rw [show bI false = 0 from rfl, if_pos rfl, f_X7_faultOf_150, f_X7_faultOf_151, f_X7_faultOf_152, if_pos rfl, if_neg (by decide)]
    | true =>
      rw [show bI true = 1 from rfl, if_neg (by decide), if_pos (by decide), f_X7_faultOf_146, f_X7_faultOf_151, f_X7_faultOf_152, if_neg (by decide), if_pos rfl, Int32.zero_add, f_X7_faultOf_2, gI_k hK.1, hp.1]
      by_cases h1 : 1 < l.length
      · have a1 : ∀ F : Int32 → Option (Int32 × VT), aI K V 0 (M + 1) 1 F = F (l.getD 1 (-6)) := by
          intro F
          have := aI_n (F := F) (V := V) (j := 1) hK.k1 (by decide) (by decide)
          rw [hp.2.get h1 (-6)] at this
          exact this
        have a0 : ∀ F : Int32 → Option (Int32 × VT), aI K V 0 (M + 1) 0 F = F (l.getD 0 (-6)) := by
          intro F
          have := aI_n (F := F) (V := V) (j := 0) hK.k1 (by decide) (by decide)
          rw [hp.2.get h0 (-6), nI_0] at this
          exact this
        rw [if_pos (show 1 < nI l.length from (nI_ltI (a := 1) (by decide) (by omega)).mpr h1), if_pos rfl, gR_k hK.1 hK.p1, a1, cS_k (m_in _ _ _ _)]
        cases hc : cwB (l.getD 1 (-6)) (l.getD 0 (-6)) with
        | false =>
          rw [if_neg (show ¬ (false = true) by decide)]
          have bad : f_X7_faultOf_57 K P (f_X7_faultOf_2 K P (FU - 3 + 1)) M 1 V = some (1, V) := by
            rw [f_X7_faultOf_57, f_X7_faultOf_58, f_X7_faultOf_152, if_pos rfl]
          cases hb : inB (l.getD 1 (-6)) 48 51 with
          | false => rw [show bI false = 0 from rfl, if_pos rfl]; exact bad
          | true =>
            rw [show bI true = 1 from rfl, if_neg (by decide), gR_k hK.1 hK.p1, a1]
            have hin := inB_true hb
            by_cases h5 : l.getD 1 (-6) = 50
            · rw [if_pos h5, gR_k hK.1 hK.p1, a0]
              by_cases h45 : l.getD 0 (-6) = 45
              · rw [if_pos h45]; exact bad
              · exfalso; revert hc; unfold cwB; rw [if_pos h5, decide_eq_false h45]; decide
            · exfalso; revert hc; unfold cwB; rw [if_neg h5, if_neg hin.1, if_neg hin.2]; decide
        | true =>
          obtain ⟨hw, hm5⟩ := cwB_w hc
          have hb : inB (l.getD 1 (-6)) 48 51 = true := by rcases hw with h | h | h | h <;> rw [h] <;> rfl
          rw [if_pos (show true = true from rfl), hb, show bI true = 1 from rfl, if_neg (by decide), gR_k hK.1 hK.p1, a1]
          -- on to place 2
          have good : f_X7_faultOf_53 K P (f_X7_faultOf_2 K P (FU - 3 + 1)) M 1 V = some (if hmB (l.getD 1 (-6) - 48) = true ∧ nsB l 2 = false then 2 else flt1 l (fhI (l.getD 1 (-6) - 48) + if l.getD 1 (-6) - 48 = 2 then 0 else 6) 1000 (fhI (l.getD 1 (-6) - 48)), V) := by
            rw [f_X7_faultOf_53, f_X7_faultOf_58, f_X7_faultOf_152, if_neg (by decide), show (1 : Int32) + 1 = nI 2 from rfl]
            by_cases h2 : 2 < l.length
            · rw [m_fault_loop hK hl hs hp hw h2 (FU - 3 + 1) 2 (by omega) (by omega) (by omega)]
              have e2 : (if hmB (l.getD 1 (-6) - 48) = true ∧ nsB l 2 = false then (2 : Int32) else flt1 l (fhI (l.getD 1 (-6) - 48) + if l.getD 1 (-6) - 48 = 2 then 0 else 6) 1000 (fhI (l.getD 1 (-6) - 48))) = flt1 l (limF (l.getD 1 (-6))) (FU - 3 + 1 + 1) 2 := by
                unfold limF
                rcases hw with h | h | h | h
                · rw [h, if_neg (fun z => absurd z.1 (by decide)), show fhI (48 - 48) = 2 from rfl]
                  exact (flt1_fuel _ _ 1000 2 (by omega) _ (by unfold FU; omega)).symm
                · rw [h, show fhI (49 - 48) = 3 from rfl, if_neg (show ¬ ((49 : Int32) - 48 = 2) by decide)]
                  conv => rhs; unfold flt1
                  rw [if_pos h2, if_pos (show 2 < 3 + 6 by omega)]
                  cases hn : nsB l 2 with
                  | false => rw [if_pos ⟨by decide, rfl⟩, if_neg (by decide)]; rfl
                  | true =>
                    rw [if_neg (by simp), if_pos rfl]
                    exact (flt1_fuel _ _ 1000 3 (by omega) _ (by unfold FU; omega)).symm
                · rw [h, if_neg (fun z => absurd z.1 (by decide)), show fhI (50 - 48) = 2 from rfl]
                  exact (flt1_fuel _ _ 1000 2 (by omega) _ (by unfold FU; omega)).symm
                · rw [h, show fhI (51 - 48) = 3 from rfl, if_neg (show ¬ ((51 : Int32) - 48 = 2) by decide)]
                  conv => rhs; unfold flt1
                  rw [if_pos h2, if_pos (show 2 < 3 + 6 by omega)]
                  cases hn : nsB l 2 with
                  | false => rw [if_pos ⟨by decide, rfl⟩, if_neg (by decide)]; rfl
                  | true =>
                    rw [if_neg (by simp), if_pos rfl]
                    exact (flt1_fuel _ _ 1000 3 (by omega) _ (by unfold FU; omega)).symm
              rw [e2]
            · have hl2 : l.length = 2 := by omega
              have hn2 : nsB l 2 = false := by
                unfold nsB; rw [getD_none (by omega)]; rfl
              rw [f_X7_faultOf_2, gI_k hK.1, hp.1, hl2, if_neg (by decide), gI_k hK.1, hp.1, hl2, if_pos (by decide), gI_k hK.1, hp.1, hl2, if_neg (by decide), gR_k hK.1 hK.p1, a1, hn2]
              rcases hw with h | h | h | h
              · rw [h, if_pos rfl, f_X7_faultOf_202, f_X7_faultOf_207, if_neg (by decide), if_neg (by decide)]
                unfold flt1; rw [if_neg (by rw [hl2]; decide)]
              · rw [h, if_neg (by decide), gR_k hK.1 hK.p1, a1, h, if_neg (by decide), f_X7_faultOf_206, f_X7_faultOf_207, if_pos rfl, gI_k hK.1, hp.1, hl2, if_pos ⟨by decide, rfl⟩]; rfl
              · rw [h, if_neg (by decide), gR_k hK.1 hK.p1, a1, h, if_pos rfl, f_X7_faultOf_202, f_X7_faultOf_207, if_neg (by decide), if_neg (by decide)]
                unfold flt1; rw [if_neg (by rw [hl2]; decide)]
              · rw [h, if_neg (by decide), gR_k hK.1 hK.p1, a1, h, if_neg (by decide), f_X7_faultOf_206, f_X7_faultOf_207, if_pos rfl, gI_k hK.1, hp.1, hl2, if_pos ⟨by decide, rfl⟩]; rfl
          by_cases h5 : l.getD 1 (-6) = 50
          · rw [if_pos h5, gR_k hK.1 hK.p1, a0, if_neg (hm5 h5)]; exact good
          · rw [if_neg h5]; exact good
      · have hl1 : l.length = 1 := by omega
        have hc : cwB (l.getD 1 (-6)) (l.getD 0 (-6)) = false := by rw [getD_none (by omega)]; rfl
        rw [hl1, if_neg (by decide), gI_k hK.1, hp.1, hl1, if_neg (by decide), f_X7_faultOf_206, f_X7_faultOf_207, if_pos rfl, gI_k hK.1, hp.1, hl1, hc, if_neg (by decide)]; rfl
  · have hl0 : l.length = 0 := by omega
    have hm : cmB (l.getD 0 (-6)) = false := by rw [getD_none (by omega)]; rfl
    rw [hl0, nI_0, if_neg (by decide), gI_k hK.1, hp.1, hl0, nI_0, if_neg (by decide), f_X7_faultOf_206, f_X7_faultOf_207, if_pos rfl, gI_k hK.1, hp.1, hl0, nI_0, hm, if_neg (by decide)]
end MO4
