/-! PURE PART, 6: the reference's state, its layers put round a text -/
def moTab : List (Nat × Nat × Nat × Nat) := [(1, 1, 0, 60), (2, 2, 0, 5), (3, 3, 0, 5), (4, 4, 0, 5), (5, 5, 0, 5), (6, 6, 0, 30), (8, 7, 0, 5), (10, 8, 0, 12), (12, 9, 0, 400), (13, 10, 0, 1300), (15, 11, 0, 12), (17, 12, 0, 5), (18, 13, 0, 5), (19, 14, 0, 5), (20, 15, 0, 140), (21, 16, 1, 2)]
def MoK (K : KT) (P : PT) (M : Nat) : Prop := K M = some (.inl 5) ∧ ∀ q ∈ moTab, P M q.1 = some (M + q.2.1) ∧ K (M + q.2.1) = some (.inr (q.2.2.1, q.2.2.2))
section MOK
variable {K : KT} {P : PT} {M : Nat}
theorem MoK.p1 (h : MoK K P M) : P M 1 = some (M + 1) := (h.2 (1, 1, 0, 60) (by decide)).1
theorem MoK.k1 (h : MoK K P M) : K (M + 1) = some (.inr (0, 60)) := (h.2 (1, 1, 0, 60) (by decide)).2
theorem MoK.p2 (h : MoK K P M) : P M 2 = some (M + 2) := (h.2 (2, 2, 0, 5) (by decide)).1
theorem MoK.k2 (h : MoK K P M) : K (M + 2) = some (.inr (0, 5)) := (h.2 (2, 2, 0, 5) (by decide)).2
theorem MoK.p3 (h : MoK K P M) : P M 3 = some (M + 3) := (h.2 (3, 3, 0, 5) (by decide)).1
theorem MoK.k3 (h : MoK K P M) : K (M + 3) = some (.inr (0, 5)) := (h.2 (3, 3, 0, 5) (by decide)).2
theorem MoK.p4 (h : MoK K P M) : P M 4 = some (M + 4) := (h.2 (4, 4, 0, 5) (by decide)).1
theorem MoK.k4 (h : MoK K P M) : K (M + 4) = some (.inr (0, 5)) := (h.2 (4, 4, 0, 5) (by decide)).2
theorem MoK.p5 (h : MoK K P M) : P M 5 = some (M + 5) := (h.2 (5, 5, 0, 5) (by decide)).1
theorem MoK.k5 (h : MoK K P M) : K (M + 5) = some (.inr (0, 5)) := (h.2 (5, 5, 0, 5) (by decide)).2
theorem MoK.p6 (h : MoK K P M) : P M 6 = some (M + 6) := (h.2 (6, 6, 0, 30) (by decide)).1
theorem MoK.k6 (h : MoK K P M) : K (M + 6) = some (.inr (0, 30)) := (h.2 (6, 6, 0, 30) (by decide)).2
theorem MoK.p8 (h : MoK K P M) : P M 8 = some (M + 7) := (h.2 (8, 7, 0, 5) (by decide)).1
theorem MoK.k8 (h : MoK K P M) : K (M + 7) = some (.inr (0, 5)) := (h.2 (8, 7, 0, 5) (by decide)).2
theorem MoK.p10 (h : MoK K P M) : P M 10 = some (M + 8) := (h.2 (10, 8, 0, 12) (by decide)).1
theorem MoK.k10 (h : MoK K P M) : K (M + 8) = some (.inr (0, 12)) := (h.2 (10, 8, 0, 12) (by decide)).2
theorem MoK.p12 (h : MoK K P M) : P M 12 = some (M + 9) := (h.2 (12, 9, 0, 400) (by decide)).1
theorem MoK.k12 (h : MoK K P M) : K (M + 9) = some (.inr (0, 400)) := (h.2 (12, 9, 0, 400) (by decide)).2
theorem MoK.p13 (h : MoK K P M) : P M 13 = some (M + 10) := (h.2 (13, 10, 0, 1300) (by decide)).1
theorem MoK.k13 (h : MoK K P M) : K (M + 10) = some (.inr (0, 1300)) := (h.2 (13, 10, 0, 1300) (by decide)).2
theorem MoK.p15 (h : MoK K P M) : P M 15 = some (M + 11) := (h.2 (15, 11, 0, 12) (by decide)).1
theorem MoK.k15 (h : MoK K P M) : K (M + 11) = some (.inr (0, 12)) := (h.2 (15, 11, 0, 12) (by decide)).2
theorem MoK.p17 (h : MoK K P M) : P M 17 = some (M + 12) := (h.2 (17, 12, 0, 5) (by decide)).1
theorem MoK.k17 (h : MoK K P M) : K (M + 12) = some (.inr (0, 5)) := (h.2 (17, 12, 0, 5) (by decide)).2
theorem MoK.p18 (h : MoK K P M) : P M 18 = some (M + 13) := (h.2 (18, 13, 0, 5) (by decide)).1
theorem MoK.k18 (h : MoK K P M) : K (M + 13) = some (.inr (0, 5)) := (h.2 (18, 13, 0, 5) (by decide)).2
theorem MoK.p19 (h : MoK K P M) : P M 19 = some (M + 14) := (h.2 (19, 14, 0, 5) (by decide)).1
theorem MoK.k19 (h : MoK K P M) : K (M + 14) = some (.inr (0, 5)) := (h.2 (19, 14, 0, 5) (by decide)).2
theorem MoK.p20 (h : MoK K P M) : P M 20 = some (M + 15) := (h.2 (20, 15, 0, 140) (by decide)).1
theorem MoK.k20 (h : MoK K P M) : K (M + 15) = some (.inr (0, 140)) := (h.2 (20, 15, 0, 140) (by decide)).2
theorem MoK.p21 (h : MoK K P M) : P M 21 = some (M + 16) := (h.2 (21, 16, 1, 2) (by decide)).1
theorem MoK.k21 (h : MoK K P M) : K (M + 16) = some (.inr (1, 2)) := (h.2 (21, 16, 1, 2) (by decide)).2
end MOK
/-- what a method of the reference changes: of its cells M + k those of A, of its numbers those of J -/
def MF (M : Nat) (A J : List Nat) (V V2 : VT) : Prop := (∀ a : Nat, a ≠ M → (∀ k ∈ A, a ≠ M + k) → V2 a = V a) ∧ ∀ j : Nat, j ∉ J → V2 M j = V M j
section MFS
variable {M : Nat} {A J A2 J2 : List Nat} {V V2 V3 : VT}
theorem MF.rf : MF M A J V V := ⟨fun _ _ _ => rfl, fun _ _ => rfl⟩
theorem MF.tr (h1 : MF M A J V V2) (h2 : MF M A J V2 V3) : MF M A J V V3 := ⟨fun a h h' => (h2.1 a h h').trans (h1.1 a h h'), fun j h => (h2.2 j h).trans (h1.2 j h)⟩
theorem MF.wd (h : MF M A J V V2) (hA : ∀ k ∈ A, k ∈ A2) (hJ : ∀ k ∈ J, k ∈ J2) : MF M A2 J2 V V2 := ⟨fun a h1 h2 => h.1 a h1 (fun k hk => h2 k (hA k hk)), fun j hj => h.2 j (fun z => hj (hJ j z))⟩
theorem MF.fld {j : Nat} {x : Int32} (hj : j ∈ J) : MF M A J V (vset V M j x) := ⟨fun a h _ => vset_ne h, fun i hi => vset_k (fun e => hi (e ▸ hj))⟩
theorem MF.cel {k i : Nat} {x : Int32} (hk : k ∈ A) (h0 : 0 < k) : MF M A J V (vset V (M + k) i x) := ⟨fun a _ h => vset_ne (h k hk), fun j _ => by rw [vset_ne (by omega)]⟩
theorem MF.at (h : MF M A J V V2) {k : Nat} (hk : k ∉ A) (h0 : 0 < k) : V2 (M + k) = V (M + k) := h.1 _ (by omega) (fun j hj e => hk (by
  have : k = j := by omega
  rw [this]; exact hj))
theorem MF.lo (h : MF M A J V V2) {a : Nat} (ha : a < M) : V2 a = V a := h.1 _ (by omega) (fun j hj => by omega)
theorem MF.hi (h : MF M A J V V2) {a : Nat} (ha : M + 17 ≤ a) (hA : ∀ k ∈ A, k < 17) : V2 a = V a := h.1 _ (by omega) (fun j hj => by have := hA j hj; omega)
end MFS
def ArV (V : VT) (a : Nat) (l : List Int32) : Prop := ∀ (i : Nat) (x : Int32), l[i]? = some x → V a i = x
theorem ArV.keep {V V2 : VT} {a : Nat} {l : List Int32} (h : ArV V a l) (e : V2 a = V a) : ArV V2 a l := fun i x hi => by rw [e]; exact h i x hi
theorem ArV.push {V : VT} {a : Nat} {l : List Int32} (h : ArV V a l) (x : Int32) : ArV (vset V a l.length x) a (l ++ [x]) := by
  intro i y hi
  by_cases hil : i < l.length
  · rw [List.getElem?_append_left hil] at hi
    rw [vset_k (by omega)]; exact h i y hi
  · rw [List.getElem?_append_right (by omega)] at hi
    have hz : i - l.length < 1 := (List.getElem?_eq_some_iff.mp hi).1
    have hil2 : i = l.length := by omega
    subst hil2
    rw [Nat.sub_self] at hi
    cases hi
    exact vset_at
theorem ArV.get {V : VT} {a : Nat} {l : List Int32} (h : ArV V a l) {i : Nat} (hi : i < l.length) (d : Int32) : V a i = l.getD i d := by
  rw [h i l[i] (List.getElem?_eq_getElem hi), List.getD_eq_getElem?_getD, List.getElem?_eq_getElem hi]; rfl
theorem ArV.next {V : VT} {a : Nat} {l : List Int32} {i : Nat} (h : ArV V a (l.take i)) (hi : i < l.length) (d : Int32) : ArV (vset V a i (l.getD i d)) a (l.take (i + 1)) := by
  have := h.push (l.getD i d)
  rw [take_next hi, List.length_take, show min i l.length = i by omega] at this
  exact this
theorem ArV.nil {V : VT} {a : Nat} : ArV V a [] := fun i x h => by simp at h
/-! signs and layers as they should be -/
def SgL (t : List Int32) : Prop := ∀ s ∈ t, isSg s = true
theorem sg_nI {s : Int32} (h : isSg s = true) : ∃ n : Nat, 33 ≤ n ∧ n ≤ 126 ∧ s = nI n := by
  unfold isSg at h
  split at h
  · cases h
  · rename_i h1
    split at h
    · cases h
    · rename_i h2
      have e1 := Int32.le_iff_toInt_le.mp (Int32.not_lt.mp h1)
      have e2 := Int32.le_iff_toInt_le.mp (Int32.not_lt.mp h2)
      have c1 : (33 : Int32).toInt = 33 := by decide
      have c2 : (126 : Int32).toInt = 126 := by decide
      rw [c1] at e1
      rw [c2] at e2
      refine ⟨s.toInt.toNat, by omega, by omega, ?_⟩
      refine Int32.toInt_inj.mp ?_
      rw [nI_toInt (by omega)]
      omega
theorem sg_of_nI {n : Nat} (h1 : 33 ≤ n) (h2 : n ≤ 126) : isSg (nI n) = true := by
  have key : ∀ n, n < 127 → 33 ≤ n → isSg (nI n) = true := by decide +kernel
  exact key n (by omega) h1
theorem sg_ne6 {s : Int32} (h : isSg s = true) : s ≠ -6 := by
  intro e; rw [e] at h; revert h; decide
theorem sg_div {s : Int32} (h : isSg s = true) : s / 16 = s >>> ((4 : Int32) &&& 31) ∧ s - s / 16 * 16 = s &&& 15 ∧ isSg (dgt (s >>> ((4 : Int32) &&& 31))) = true ∧ isSg (dgt (s &&& 15)) = true := by
  obtain ⟨n, h1, h2, rfl⟩ := sg_nI h
  have key : ∀ n, n < 127 → 33 ≤ n → (nI n / 16 = nI n >>> ((4 : Int32) &&& 31) ∧ nI n - nI n / 16 * 16 = nI n &&& 15 ∧ isSg (dgt (nI n >>> ((4 : Int32) &&& 31))) = true ∧ isSg (dgt (nI n &&& 15)) = true) := by decide +kernel
  exact key n (by omega) h1
/-- a layer that was told without a fault, or is as at first -/
def wfL (y : LayT) : Prop := y.2.2.2.length ≤ 6 ∧ (y.1 = -6 ∨ (isSg y.1 = true ∧ y.1 ≠ 45)) ∧ (y.2.1 = 0 ∨ y.2.1 = 1 ∨ y.2.1 = 2 ∨ y.2.1 = 3) ∧ (y.2.1 = 2 → y.1 ≠ -6 ∧ y.2.2.2 = []) ∧ (hmB y.2.1 = true → isSg y.2.2.1 = true ∧ y.1 ≠ y.2.2.1) ∧ (hmB y.2.1 = false → y.2.2.1 = -6)
def lay0 : LayT := (-6, 0, -6, [])
theorem wf_lay0 : wfL lay0 := ⟨by decide, Or.inl rfl, Or.inl rfl, fun h => absurd h (by decide), fun h => absurd h (by decide), fun _ => rfl⟩
def mkM (y : LayT) : Int32 := if y.1 = -6 then 45 else y.1
def MLay (V : VT) (M i : Nat) (y : LayT) : Prop := V (M + 2) i = mkM y ∧ V (M + 3) i = y.2.1 ∧ V (M + 4) i = y.2.2.1 ∧ V (M + 5) i = nI y.2.2.2.length ∧ ∀ (j : Nat) (x : Int32), y.2.2.2[j]? = some x → V (M + 6) (6 * i + j) = x
def MoS (V : VT) (M : Nat) (S : StT) : Prop := (∀ i, i < 5 → MLay V M i (S.1 i)) ∧ (V M 7 = nI S.2.1.length ∧ ArV V (M + 7) (S.2.1.map nI)) ∧ V M 9 = nI S.2.2.length ∧ ArV V (M + 8) S.2.2
def WfS (S : StT) : Prop := (∀ i, i < 5 → wfL (S.1 i)) ∧ (S.2.1.length ≤ 5 ∧ ∀ c ∈ S.2.1, c < 5) ∧ (0 < S.2.2.length ∧ S.2.2.length ≤ 12) ∧ SgL S.2.2
theorem MLay.keep {V V2 : VT} {M i : Nat} {y : LayT} (h : MLay V M i y) (e2 : V2 (M + 2) = V (M + 2)) (e3 : V2 (M + 3) = V (M + 3)) (e4 : V2 (M + 4) = V (M + 4)) (e5 : V2 (M + 5) = V (M + 5)) (e6 : V2 (M + 6) = V (M + 6)) : MLay V2 M i y := by
  unfold MLay; rw [e2, e3, e4, e5, e6]; exact h
theorem MoS.mf {V V2 : VT} {M : Nat} {A J : List Nat} {S : StT} (h : MoS V M S) (hf : MF M A J V V2) (hA : ∀ k ∈ [2, 3, 4, 5, 6, 7, 8], k ∉ A) (hJ : ∀ k ∈ [7, 9], k ∉ J) : MoS V2 M S := by
  obtain ⟨h1, ⟨h2, h3⟩, h4, h5⟩ := h
  have e := fun k (hk : k ∈ [2, 3, 4, 5, 6, 7, 8]) (h0 : 0 < k) => hf.at (hA k hk) h0
  exact ⟨fun i hi => (h1 i hi).keep (e 2 (by decide) (by decide)) (e 3 (by decide) (by decide)) (e 4 (by decide) (by decide)) (e 5 (by decide) (by decide)) (e 6 (by decide) (by decide)), ⟨by rw [hf.2 7 (hJ 7 (by decide))]; exact h2, h3.keep (e 7 (by decide) (by decide))⟩, by rw [hf.2 9 (hJ 9 (by decide))]; exact h4, h5.keep (e 8 (by decide) (by decide))⟩
theorem MLay.mf {V V2 : VT} {M i : Nat} {A J : List Nat} {y : LayT} (h : MLay V M i y) (hf : MF M A J V V2) (hA : ∀ k ∈ [2, 3, 4, 5, 6], k ∉ A) : MLay V2 M i y := by
  have e := fun k (hk : k ∈ [2, 3, 4, 5, 6]) (h0 : 0 < k) => hf.at (hA k hk) h0
  exact h.keep (e 2 (by decide) (by decide)) (e 3 (by decide) (by decide)) (e 4 (by decide) (by decide)) (e 5 (by decide) (by decide)) (e 6 (by decide) (by decide))
/-- the row being worked on -/
def RowM (V : VT) (M : Nat) (t : List Int32) : Prop := V M 11 = nI t.length ∧ ArV V (M + 9) t
theorem RowM.mf {V V2 : VT} {M : Nat} {A J : List Nat} {t : List Int32} (h : RowM V M t) (hf : MF M A J V V2) (hA : 9 ∉ A) (hJ : 11 ∉ J) : RowM V2 M t := ⟨by rw [hf.2 11 hJ]; exact h.1, h.2.keep (hf.at hA (by decide))⟩
def inB (v lo hi : Int32) : Bool := if v < lo then false else if hi < v then false else true
section MO1
variable {K : KT} {P : PT} {V : VT} {M i : Nat} {y : LayT}
theorem m_in (v lo hi : Int32) (V : VT) : f_X7_in K P v lo hi V = some (bI (inB v lo hi), V) := by
  unfold f_X7_in inB
  split
  · rfl
  · split <;> rfl
theorem m_hasMark (hK : MoK K P M) (hi : i < 5) (hw : wfL y) (hV : MLay V M i y) : f_X7_hasMark K P M (nI i) V = some (bI (decide (y.1 ≠ -6)), V) := by
  unfold f_X7_hasMark
  rw [gR_k hK.1 hK.p2, aI_n hK.k2 hi (by decide), hV.1]
  unfold mkM
  by_cases h : y.1 = -6
  · rw [if_pos h, if_pos rfl]; simp [h, bI]; rfl
  · rw [if_neg h]
    have h45 : y.1 ≠ 45 := by rcases hw.2.1 with z | z; exact absurd z h; exact z.2
    rw [if_neg h45]; simp [h, bI]; rfl
theorem m_isHeld_loop (hK : MoK K P M) (hi : i < 5) (hw : wfL y) (hV : MLay V M i y) (s : Int32) :
    ∀ (n k : Nat) (b : Bool), 6 - k < n → k ≤ y.2.2.2.length → f_X7_isHeld_5 K P n M (nI i) s (bI b) (nI k) V = some (bI (b || decide (s ∈ y.2.2.2.drop k)), V) := by
  intro n
  induction n with
  | zero => intro k b h; omega
  | succ n ih =>
    intro k b hn hk
    have hl := hw.1
    rw [f_X7_isHeld_5, gR_k hK.1 hK.p5, aI_n hK.k5 hi (by decide), hV.2.2.2.1]
    by_cases h : k < y.2.2.2.length
    · rw [if_pos ((nI_ltI (by omega) (by omega)).mpr h), drop_next h 0]
      have h36 : ∀ b2 : Bool, f_X7_isHeld_41 K P (f_X7_isHeld_5 K P n) M (nI i) s (nI k) (bI b2) V = some (bI (b2 || decide (s ∈ y.2.2.2.drop (k + 1))), V) := by
        intro b2
        rw [f_X7_isHeld_41, nI_1]; exact ih (k + 1) b2 (by omega) (by omega)
      cases b with
      | true =>
        rw [show bI true = 1 from rfl, if_neg (by decide), f_X7_isHeld_36]
        have := h36 true
        rw [show bI true = 1 from rfl] at this
        rw [this]; simp
      | false =>
        rw [show bI false = 0 from rfl, if_pos rfl, gR_k hK.1 hK.p6, show (6 : Int32) = nI 6 from rfl, pk_mul, nI_add, aI_n hK.k6 (by omega) (by decide), hV.2.2.2.2 k _ (List.getElem?_eq_getElem h)]
        have hg : y.2.2.2.getD k 0 = y.2.2.2[k] := by rw [List.getD_eq_getElem?_getD, List.getElem?_eq_getElem h]; rfl
        rw [hg]
        by_cases hs : y.2.2.2[k] = s
        · rw [if_pos hs, f_X7_isHeld_36]
          have := h36 true
          rw [show bI true = 1 from rfl] at this
          rw [this, hs]; simp
        · rw [if_neg hs]
          have := h36 false
          rw [show bI false = 0 from rfl] at this
          rw [this]
          have hne : s ≠ y.2.2.2[k] := fun z => hs z.symm
          have e : decide (s ∈ y.2.2.2[k] :: y.2.2.2.drop (k + 1)) = decide (s ∈ y.2.2.2.drop (k + 1)) := by simp only [List.mem_cons, hne, false_or]
          rw [e]
    · rw [if_neg (fun z => h ((nI_ltI (by omega) (by omega)).mp z)), List.drop_eq_nil_of_le (by omega), rB_bI]; simp
theorem m_isHeld (hK : MoK K P M) (hi : i < 5) (hw : wfL y) (hV : MLay V M i y) (s : Int32) : f_X7_isHeld K P M (nI i) s V = some (bI (decide (s ∈ y.2.2.2)), V) := by
  have := m_isHeld_loop hK hi hw hV s FU 0 false (FU_lt (by omega)) (by omega)
  rw [nI_0, List.drop_zero, Bool.false_or] at this
  rw [f_X7_isHeld]; exact this
theorem m_isMasked (hK : MoK K P M) (hi : i < 5) (hw : wfL y) (hV : MLay V M i y) {s : Int32} (hs : s ≠ -6) : f_X7_isMasked K P M (nI i) s V = some (bI (msk y s), V) := by
  have h18 : f_X7_isMasked_18 K P M (nI i) s V = some (bI (decide (s = y.2.2.1) || decide (s ∈ y.2.2.2)), V) := by
    rw [f_X7_isMasked_18, gR_k hK.1 hK.p4, aI_n hK.k4 hi (by decide), hV.2.2.1]
    by_cases h : s = y.2.2.1
    · rw [if_pos h, decide_eq_true h]; rfl
    · rw [if_neg h, decide_eq_false h, cV_k hK.1 (m_isHeld hK hi hw hV s)]
      cases decide (s ∈ y.2.2.2) <;> rfl
  unfold f_X7_isMasked msk
  rw [cV_k hK.1 (m_hasMark hK hi hw hV)]
  by_cases h : y.1 = -6
  · rw [decide_eq_false (fun z => z h), show bI false = 0 from rfl, if_pos rfl, h18, h, decide_eq_false hs]; rfl
  · rw [decide_eq_true h, show bI true = 1 from rfl, if_neg (by decide), gR_k hK.1 hK.p2, aI_n hK.k2 hi (by decide), hV.1]
    unfold mkM
    rw [if_neg h]
    by_cases h2 : s = y.1
    · rw [if_pos h2, decide_eq_true h2]; rfl
    · rw [if_neg h2, decide_eq_false h2, h18]; rfl
theorem m_digit (v : Int32) (V : VT) : f_X7_digit K P v V = some (dgt v, V) := by
  unfold f_X7_digit dgt
  split <;> rfl
abbrev AW : List Nat := [9, 10]
abbrev JW : List Nat := [11, 14]
abbrev JP : List Nat := [11]
theorem m_put_copy (hK : MoK K P M) {out : List Int32} (ho : out.length ≤ 400) :
    ∀ (n k : Nat) (V : VT), out.length - k < n → k ≤ out.length → ArV V (M + 10) out → ArV V (M + 9) (out.take k) → ∃ V2, f_X7_put_223 K P n M (nI out.length) (nI k) V = some (0, V2) ∧ RowM V2 M out ∧ MF M AW JP V V2 := by
  intro n
  induction n with
  | zero => intro k V h; omega
  | succ n ih =>
    intro k V hn hk ha hr
    rw [f_X7_put_223]
    by_cases h : k < out.length
    · rw [if_pos ((nI_ltI (by omega) (by omega)).mpr h), gR_k hK.1 hK.p12, gR_k hK.1 hK.p13, aI_n hK.k13 (by omega) (by decide), sA_n hK.k12 (by omega) (by decide), nI_1, ha.get h (-6)]
      obtain ⟨V2, e2, h2, f2⟩ := ih (k + 1) _ (by omega) (by omega) (ha.keep (vset_ne (by omega))) (hr.next h (-6))
      exact ⟨V2, e2, h2, (MF.cel (k := 9) (by decide) (by decide)).tr f2⟩
    · rw [if_neg (fun z => h ((nI_ltI (by omega) (by omega)).mp z)), sI_k hK.1]
      rw [List.take_of_length_le (by omega)] at hr
      exact ⟨_, rfl, ⟨vset_at, hr.keep (vset_ne (by omega))⟩, MF.fld (by decide)⟩
def PutM (V2 : VT) (M : Nat) (x : Option (List Int32)) (res : Int32) : Prop := match x with
  | none => res = -5
  | some o => if 400 < o.length then res = -7 else res = 0 ∧ RowM V2 M o
theorem m_put_210 (hK : MoK K P M) {out : List Int32} (ho : out.length ≤ 1300) (ha : ArV V (M + 10) out) : ∃ V2 res, f_X7_put_210 K P M (nI out.length) V = some (res, V2) ∧ PutM V2 M (some out) res ∧ MF M AW JP V V2 := by
  rw [f_X7_put_210, show (400 : Int32) = nI 400 from rfl]
  by_cases h : 400 < out.length
  · rw [if_pos ((nI_ltI (by omega) (by omega)).mpr h)]
    exact ⟨V, -7, rfl, by show (if _ then _ else _); rw [if_pos h], MF.rf⟩
  · rw [if_neg (fun z => h ((nI_ltI (by omega) (by omega)).mp z))]
    obtain ⟨V2, e2, h2, f2⟩ := m_put_copy hK (out := out) (by omega) FU 0 V (FU_lt (by omega)) (by omega) ha ArV.nil
    rw [nI_0] at e2
    exact ⟨V2, 0, e2, by show (if _ then _ else _); rw [if_neg h]; exact ⟨rfl, h2⟩, f2⟩
end MO1
