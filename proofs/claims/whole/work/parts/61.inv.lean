/-! PURE PART, 12: the class's object, the invariant, an outcome -/
def ClsK (K : KT) (P : PT) (B : Nat) : Prop := (K B = some (.inl 4)) ∧ (P B 0 = some (B + 1)) ∧ (RowK K P (B + 1) 60) ∧ (P B 1 = some (B + 3)) ∧ (StdK K P (B + 3)) ∧ (P B 2 = some (B + 27)) ∧ (StdK K P (B + 27)) ∧ (P B 3 = some (B + 51)) ∧ (StdK K P (B + 51)) ∧ (P B 4 = some (B + 75)) ∧ (PasK K P (B + 75)) ∧ (P B 5 = some (B + 80)) ∧ (RowK K P (B + 80) 12) ∧ (P B 6 = some (B + 82)) ∧ (RowK K P (B + 82) 6) ∧ (P B 7 = some (B + 84)) ∧ (RowK K P (B + 84) 5) ∧ (P B 8 = some (B + 86)) ∧ (RowK K P (B + 86) 5) ∧ (MoK K P (B + 88))
theorem ClsK.k {K : KT} {P : PT} {B : Nat} (h : ClsK K P B) : K B = some (.inl 4) := h.1
theorem ClsK.p0 {K : KT} {P : PT} {B : Nat} (h : ClsK K P B) : P B 0 = some (B + 1) := h.2.1
theorem ClsK.r0 {K : KT} {P : PT} {B : Nat} (h : ClsK K P B) : RowK K P (B + 1) 60 := h.2.2.1
theorem ClsK.p1 {K : KT} {P : PT} {B : Nat} (h : ClsK K P B) : P B 1 = some (B + 3) := h.2.2.2.1
theorem ClsK.s1 {K : KT} {P : PT} {B : Nat} (h : ClsK K P B) : StdK K P (B + 3) := h.2.2.2.2.1
theorem ClsK.p2 {K : KT} {P : PT} {B : Nat} (h : ClsK K P B) : P B 2 = some (B + 27) := h.2.2.2.2.2.1
theorem ClsK.s2 {K : KT} {P : PT} {B : Nat} (h : ClsK K P B) : StdK K P (B + 27) := h.2.2.2.2.2.2.1
theorem ClsK.p3 {K : KT} {P : PT} {B : Nat} (h : ClsK K P B) : P B 3 = some (B + 51) := h.2.2.2.2.2.2.2.1
theorem ClsK.s3 {K : KT} {P : PT} {B : Nat} (h : ClsK K P B) : StdK K P (B + 51) := h.2.2.2.2.2.2.2.2.1
theorem ClsK.p4 {K : KT} {P : PT} {B : Nat} (h : ClsK K P B) : P B 4 = some (B + 75) := h.2.2.2.2.2.2.2.2.2.1
theorem ClsK.q4 {K : KT} {P : PT} {B : Nat} (h : ClsK K P B) : PasK K P (B + 75) := h.2.2.2.2.2.2.2.2.2.2.1
theorem ClsK.p5 {K : KT} {P : PT} {B : Nat} (h : ClsK K P B) : P B 5 = some (B + 80) := h.2.2.2.2.2.2.2.2.2.2.2.1
theorem ClsK.r5 {K : KT} {P : PT} {B : Nat} (h : ClsK K P B) : RowK K P (B + 80) 12 := h.2.2.2.2.2.2.2.2.2.2.2.2.1
theorem ClsK.p6 {K : KT} {P : PT} {B : Nat} (h : ClsK K P B) : P B 6 = some (B + 82) := h.2.2.2.2.2.2.2.2.2.2.2.2.2.1
theorem ClsK.r6 {K : KT} {P : PT} {B : Nat} (h : ClsK K P B) : RowK K P (B + 82) 6 := h.2.2.2.2.2.2.2.2.2.2.2.2.2.2.1
theorem ClsK.p7 {K : KT} {P : PT} {B : Nat} (h : ClsK K P B) : P B 7 = some (B + 84) := h.2.2.2.2.2.2.2.2.2.2.2.2.2.2.2.1
theorem ClsK.r7 {K : KT} {P : PT} {B : Nat} (h : ClsK K P B) : RowK K P (B + 84) 5 := h.2.2.2.2.2.2.2.2.2.2.2.2.2.2.2.2.1
theorem ClsK.p8 {K : KT} {P : PT} {B : Nat} (h : ClsK K P B) : P B 8 = some (B + 86) := h.2.2.2.2.2.2.2.2.2.2.2.2.2.2.2.2.2.1
theorem ClsK.r8 {K : KT} {P : PT} {B : Nat} (h : ClsK K P B) : RowK K P (B + 86) 5 := h.2.2.2.2.2.2.2.2.2.2.2.2.2.2.2.2.2.2.1
theorem ClsK.mo {K : KT} {P : PT} {B : Nat} (h : ClsK K P B) : MoK K P (B + 88) := h.2.2.2.2.2.2.2.2.2.2.2.2.2.2.2.2.2.2.2
section CL0
variable {K : KT} {P : PT} {B : Nat}
theorem ClsK.ch (h : ClsK K P B) : P (B + 3) 2 = some (B + 3 + 5) := h.s1.2.2.2.1.1
theorem ClsK.chK (h : ClsK K P B) : RowK K P (B + 3 + 5) 5 := h.s1.2.2.2.1.2
theorem ClsK.tx (h : ClsK K P B) : P (B + 3) 3 = some (B + 3 + 7) := h.s1.2.2.2.2.1.1
theorem ClsK.txK (h : ClsK K P B) : RowK K P (B + 3 + 7) 12 := h.s1.2.2.2.2.1.2
end CL0
def CV (V : VT) (B : Nat) (pad : List Int32) (S : StT) : Prop := (RowV V (B + 1) 60 pad 0) ∧ (StdV V (B + 3) S) ∧ (PasF V (B + 75))
theorem CV.pad {V : VT} {B : Nat} {pad : List Int32} {S : StT} (h : CV V B pad S) : RowV V (B + 1) 60 pad 0 := h.1
theorem CV.std {V : VT} {B : Nat} {pad : List Int32} {S : StT} (h : CV V B pad S) : StdV V (B + 3) S := h.2.1
theorem CV.pas {V : VT} {B : Nat} {pad : List Int32} {S : StT} (h : CV V B pad S) : PasF V (B + 75) := h.2.2
def CQ (B : Nat) (V V2 : VT) : Prop := Fr (B + 75) (B + 88) V V2 ∧ PasF V2 (B + 75)
theorem CV.q {V V2 : VT} {B : Nat} {pad : List Int32} {S : StT} (h : CV V B pad S) (hq : CQ B V V2) : CV V2 B pad S := ⟨h.pad.fr hq.1 (by omega), h.std.fr hq.1 (by omega), hq.2⟩
theorem CQ.tr {V V2 V3 : VT} {B : Nat} (h : CQ B V V2) (h2 : CQ B V2 V3) : CQ B V V3 := ⟨h.1.tr h2.1, h2.2⟩
theorem CQ.rf {V : VT} {B : Nat} (h : PasF V (B + 75)) : CQ B V V := ⟨Fr.rf, h⟩
/-- a change among the loose rows -/
theorem CQ.of {V V2 : VT} {B lo hi : Nat} (h : PasF V (B + 75)) (hf : Fr lo hi V V2) (h1 : B + 76 ≤ lo) (h2 : hi ≤ B + 88) : CQ B V V2 := ⟨hf.wd (by omega) h2, by unfold PasF; rw [hf (B + 75) (by omega)]; exact h⟩
def ImM (V : VT) (M n : Nat) (S : StT) : Prop := (∀ i, i < 5 → V (M + 15) (70 * n + i) = mkM (S.1 i) ∧ V (M + 15) (70 * n + 5 + i) = (S.1 i).2.1 ∧ V (M + 15) (70 * n + 10 + i) = (S.1 i).2.2.1 ∧ V (M + 15) (70 * n + 15 + i) = nI (S.1 i).2.2.2.length ∧ ∀ (j : Nat) (x : Int32), (S.1 i).2.2.2[j]? = some x → V (M + 15) (70 * n + 25 + (6 * i + j)) = x) ∧ V (M + 15) (70 * n + 67) = nI S.2.1.length ∧ (∀ (j : Nat) (x : Int32), (S.2.1.map nI)[j]? = some x → V (M + 15) (70 * n + 20 + j) = x) ∧ V (M + 15) (70 * n + 68) = nI S.2.2.length ∧ ∀ (j : Nat) (x : Int32), S.2.2[j]? = some x → V (M + 15) (70 * n + 55 + j) = x
def Img (V : VT) (B n : Nat) : Prop := (V (B + 27 + 24 * n) 4 = 0 ∧ V (B + 88 + 16) n = 0) ∨ (V (B + 27 + 24 * n) 4 = 1 ∧ V (B + 88 + 16) n = 1 ∧ ∃ S : StT, WfS S ∧ StdV V (B + 27 + 24 * n) S ∧ ImM V (B + 88) n S)
theorem Img.keep {V V2 : VT} {B n : Nat} (h : Img V B n) (e1 : ∀ a, B + 27 + 24 * n ≤ a → a < B + 27 + 24 * n + 24 → V2 a = V a) (e2 : V2 (B + 88 + 15) = V (B + 88 + 15)) (e3 : V2 (B + 88 + 16) = V (B + 88 + 16)) : Img V2 B n := by
  have e0 := e1 (B + 27 + 24 * n) (by omega) (by omega)
  rcases h with ⟨h1, h2⟩ | ⟨h1, h2, S, hw, h3, h4⟩
  · exact Or.inl ⟨by rw [e0]; exact h1, by rw [e3]; exact h2⟩
  · refine Or.inr ⟨by rw [e0]; exact h1, by rw [e3]; exact h2, S, hw, ?_, ?_⟩
    · have hf : Fr 0 (B + 27 + 24 * n) (fun a => if a < B + 27 + 24 * n ∨ B + 27 + 24 * n + 24 ≤ a then V2 a else V a) V2 := by
        intro a ha
        by_cases q : a < B + 27 + 24 * n ∨ B + 27 + 24 * n + 24 ≤ a
        · simp only [if_pos q]
        · simp only [if_neg q]; exact e1 a (by omega) (by omega)
      have hf2 : Fr 0 (B + 27 + 24 * n) V (fun a => if a < B + 27 + 24 * n ∨ B + 27 + 24 * n + 24 ≤ a then V a else V2 a) := by
        intro a ha
        by_cases q : a < B + 27 + 24 * n ∨ B + 27 + 24 * n + 24 ≤ a
        · simp only [if_pos q]
        · simp only [if_neg q]; exact e1 a (by omega) (by omega)
      refine ⟨fun i hi => ?_, h3.2.1.keep (e1 _ (by omega) (by omega)) (e1 _ (by omega) (by omega)), h3.2.2.keep (e1 _ (by omega) (by omega)) (e1 _ (by omega) (by omega))⟩
      obtain ⟨a1, a2, a3, a4⟩ := h3.1 i hi
      have ea := e1 (B + 27 + 24 * n + 9 + 3 * i) (by omega) (by omega)
      exact ⟨by rw [ea]; exact a1, by rw [ea]; exact a2, by rw [ea]; exact a3, a4.keep (e1 _ (by omega) (by omega)) (e1 _ (by omega) (by omega))⟩
    · unfold ImM; rw [e2]; exact h4
def Inv (B : Nat) (V : VT) (pad : List Int32) (S : StT) : Prop := (pad.length ≤ 60) ∧ (SgL pad) ∧ (WfS S) ∧ (CV V B pad S) ∧ (PadM V (B + 88) pad) ∧ (MoS V (B + 88) S) ∧ (∀ n, n < 2 → Img V B n)
theorem Inv.lp {B : Nat} {V : VT} {pad : List Int32} {S : StT} (h : Inv B V pad S) : pad.length ≤ 60 := h.1
theorem Inv.sp {B : Nat} {V : VT} {pad : List Int32} {S : StT} (h : Inv B V pad S) : SgL pad := h.2.1
theorem Inv.wf {B : Nat} {V : VT} {pad : List Int32} {S : StT} (h : Inv B V pad S) : WfS S := h.2.2.1
theorem Inv.c {B : Nat} {V : VT} {pad : List Int32} {S : StT} (h : Inv B V pad S) : CV V B pad S := h.2.2.2.1
theorem Inv.mp {B : Nat} {V : VT} {pad : List Int32} {S : StT} (h : Inv B V pad S) : PadM V (B + 88) pad := h.2.2.2.2.1
theorem Inv.ms {B : Nat} {V : VT} {pad : List Int32} {S : StT} (h : Inv B V pad S) : MoS V (B + 88) S := h.2.2.2.2.2.1
theorem Inv.im {B : Nat} {V : VT} {pad : List Int32} {S : StT} (h : Inv B V pad S) : ∀ n, n < 2 → Img V B n := h.2.2.2.2.2.2
theorem PadM.fr {V V2 : VT} {M lo hi : Nat} {pad : List Int32} (h : PadM V M pad) (hf : Fr lo hi V V2) (hr : hi ≤ M) : PadM V2 M pad := ⟨by rw [hf M (by omega)]; exact h.1, h.2.keep (hf _ (by omega))⟩
theorem MoS.fr {V V2 : VT} {M lo hi : Nat} {S : StT} (h : MoS V M S) (hf : Fr lo hi V V2) (hr : hi ≤ M) : MoS V2 M S := by
  obtain ⟨h1, ⟨h2, h3⟩, h4, h5⟩ := h
  exact ⟨fun i hi => (h1 i hi).keep (hf _ (by omega)) (hf _ (by omega)) (hf _ (by omega)) (hf _ (by omega)) (hf _ (by omega)), ⟨by rw [hf M (by omega)]; exact h2, h3.keep (hf _ (by omega))⟩, by rw [hf M (by omega)]; exact h4, h5.keep (hf _ (by omega))⟩
theorem Inv.q {B : Nat} {V V2 : VT} {pad : List Int32} {S : StT} (h : Inv B V pad S) (hq : CQ B V V2) : Inv B V2 pad S :=
  ⟨h.lp, h.sp, h.wf, h.c.q hq, h.mp.fr hq.1 (by omega), h.ms.fr hq.1 (by omega), fun n hn => (h.im n hn).keep (fun a h1 h2 => hq.1 a (by omega)) (hq.1 _ (by omega)) (hq.1 _ (by omega))⟩
theorem StdV.mf {V V2 : VT} {M s : Nat} {A J : List Nat} {S : StT} (h : StdV V s S) (hf : MF M A J V V2) (hs : s + 24 ≤ M) : StdV V2 s S := by
  refine ⟨fun i hi => ?_, h.2.1.keep (hf.lo (by omega)) (hf.lo (by omega)), h.2.2.keep (hf.lo (by omega)) (hf.lo (by omega))⟩
  obtain ⟨a1, a2, a3, a4⟩ := h.1 i hi
  have ea : V2 (s + 9 + 3 * i) = V (s + 9 + 3 * i) := hf.lo (by omega)
  exact ⟨by rw [ea]; exact a1, by rw [ea]; exact a2, by rw [ea]; exact a3, a4.keep (hf.lo (by omega)) (hf.lo (by omega))⟩
theorem CV.mf {V V2 : VT} {B : Nat} {A J : List Nat} {pad : List Int32} {S : StT} (h : CV V B pad S) (hf : MF (B + 88) A J V V2) : CV V2 B pad S :=
  ⟨h.pad.keep (hf.lo (by omega)) (hf.lo (by omega)), h.std.mf hf (by omega), by unfold PasF; rw [hf.lo (by omega)]; exact h.pas⟩
theorem Inv.m {B : Nat} {V V2 : VT} {pad : List Int32} {S : StT} (h : Inv B V pad S) (hf : MF (B + 88) AX JX V V2) : Inv B V2 pad S :=
  ⟨h.lp, h.sp, h.wf, h.c.mf hf, h.mp.mf hf (by decide) (by decide), h.ms.mf hf (by decide) (by decide), fun n hn => (h.im n hn).keep (fun a h1 h2 => hf.lo (by omega)) (hf.at (by decide) (by decide)) (hf.at (by decide) (by decide))⟩
theorem in_place {n : Nat} (hn : n < 1000) (x : Int32) : (∃ j, j < n ∧ x = nI j ∧ inB x 0 (nI n - 1) = true) ∨ (inB x 0 (nI n - 1) = false ∧ (x < 0 ∨ ∃ j : Nat, n ≤ j ∧ j < 2 ^ 31 ∧ x = nI j)) := by
  rcases i32_split x with h | ⟨j, hj, rfl⟩
  · exact Or.inr ⟨by unfold inB; rw [if_pos h], Or.inl h⟩
  · unfold inB
    rw [if_neg (nI_pos hj)]
    cases n with
    | zero =>
      refine Or.inr ⟨?_, Or.inr ⟨j, by omega, hj, rfl⟩⟩
      have : nI 0 - 1 < nI j := by
        rw [show nI 0 - 1 = (-1 : Int32) by decide]
        refine Int32.lt_iff_toInt_lt.mpr ?_
        rw [nI_toInt (by omega)]
        have e : (-1 : Int32).toInt = -1 := by decide
        omega
      rw [if_pos this]
    | succ n =>
      rw [nI_sub1]
      by_cases h : n < j
      · exact Or.inr ⟨by rw [if_pos ((nI_ltI (by omega) hj).mpr h)], Or.inr ⟨j, by omega, hj, rfl⟩⟩
      · exact Or.inl ⟨j, by omega, rfl, by rw [if_neg (fun z => h ((nI_ltI (by omega) hj).mp z))]⟩
theorem atI_out {l : List Int32} {x : Int32} (h : x < 0 ∨ ∃ j : Nat, l.length ≤ j ∧ j < 2 ^ 31 ∧ x = nI j) : atI l x = -6 := by
  rcases h with h | ⟨j, h1, h2, rfl⟩
  · unfold atI; rw [if_pos h]
  · rw [atI_n l h2, getD_none h1]
theorem nI_notlt {a b : Nat} (ha : a < 2 ^ 31) (hb : b < 2 ^ 31) (h : b ≤ a) : ¬ nI a < nI b := fun z => absurd ((nI_ltI ha hb).mp z) (by omega)
section CL1
variable {K : KT} {P : PT} {B : Nat} {V : VT} {pad : List Int32} {S : StT} {o : List Int32}
theorem m_at {M : Nat} (hK : MoK K P M) (hr : RowM V M o) (ho : o.length ≤ 400) (x : Int32) : (gI K V M 5 11 fun x8 => cS (f_X7_in K P x 0 (x8 - 1) V) fun x10 V9 => if x10 = 0 then some ((-6 : Int32), V9) else gR K P M 5 12 fun b => aI K V9 0 b x fun y => some (y, V9)) = some (atI o x, V) := by
  rw [gI_k hK.1, hr.1, cS_k (m_in _ _ _ _)]
  rcases in_place (n := o.length) (by omega) x with ⟨j, hj, rfl, hb⟩ | ⟨hb, hx⟩
  · rw [hb, show bI true = 1 from rfl, if_neg (by decide), gR_k hK.1 hK.p12, aI_n hK.k12 (by omega) (by decide), hr.2.get hj (-6), atI_n o (by omega)]
  · rw [hb, show bI false = 0 from rfl, if_pos rfl, atI_out hx]
theorem c_isPlace (hK : ClsK K P B) (h : CV V B pad S) (hw : WfS S) (x : Int32) : f_X6_isPlace K P B x V = some (bI (inB x 0 (nI S.2.1.length - 1)), V) := by
  have h5 := hw.2.1.1
  have hc := h.std.2.1
  unfold f_X6_isPlace
  rcases in_place (n := S.2.1.length) (by omega) x with ⟨j, hj, rfl, hb⟩ | ⟨hb, hx⟩
  · rw [hb, if_neg (nI_pos (by omega)), gR_k hK.k hK.p1, gR_k hK.s1.1 hK.ch, cV_k hK.chK.1 (row_size hK.chK hc), List.length_map, if_pos ((nI_ltI (by omega) (by omega)).mpr hj)]; rfl
  · rw [hb]
    rcases hx with hx | ⟨j, h1, h2, rfl⟩
    · rw [if_pos hx]; rfl
    · rw [if_neg (nI_pos h2), gR_k hK.k hK.p1, gR_k hK.s1.1 hK.ch, cV_k hK.chK.1 (row_size hK.chK hc), List.length_map, if_neg (nI_notlt h2 (by omega) h1)]; rfl
def outL (S : StT) (c : List Nat) (t : List Int32) (fg : Int32) : Int32 := match thruL S.1 fg c 0 t with
  | .inl (e, _) => e
  | .inr o => howL S.1 S.2.1 o t
theorem c_outcome (hK : ClsK K P B) (h : CV V B pad S) (hw : WfS S) {u Mu q Mq : Nat} {t : List Int32} {c : List Nat} {ou oq : Int32} (hMu : Mu ≤ 400) (hKu : RowK K P u Mu) (hu : RowV V u Mu t ou) (hdu : u + 2 ≤ B + 75 ∨ B + 75 + 5 ≤ u) (hMq : Mq < 1000) (hKq : RowK K P q Mq) (hq : RowV V q Mq (c.map nI) oq) (hdq : q + 2 ≤ B + 75 ∨ B + 75 + 5 ≤ q) (hc5 : ∀ x ∈ c, x < 5) (fg : Int32) :
    ∃ V2, f_X6_outcome K P B u q fg V = some (outL S c t fg, V2) ∧ CQ B V V2 ∧ Fr (B + 75) (B + 75 + 5) V V2 := by
  obtain ⟨V1, res, e1, h1, f1⟩ := pas_putThrough hK.q4 h.pas hK.s1 (by omega) hMq hKq hdq hc5 fg h.std.1 hq hMu hKu hdu hu
  rw [f_X6_outcome, gR_k hK.k hK.p4, gR_k hK.k hK.p1, cV_k hK.q4.1 e1]
  unfold outL
  cases hx : thruL S.1 fg c 0 t with
  | inl ek =>
    rw [hx] at h1
    obtain ⟨e, k⟩ := ek
    obtain ⟨rfl, h2, h3⟩ := h1
    refine ⟨V1, ?_, ⟨f1.wd (by omega) (by omega), h3⟩, f1⟩
    rcases (thruL_err S.1 fg c 0 t _ _ hx).1 with rfl | rfl
    · rw [if_neg (by decide), if_pos rfl]
    · rw [if_pos rfl]
  | inr o =>
    rw [hx] at h1
    obtain ⟨rfl, h2, h3⟩ := h1
    have hol := h3.2.2.1
    have q1 : CQ B V V1 := ⟨f1.wd (by omega) (by omega), h3.1⟩
    have hV1 := h.q q1
    obtain ⟨V2, res, e2, h4, f2⟩ := pas_readBack hK.q4 hK.s1 (by omega) (by decide) hK.chK (by omega) hw.2.1.2 hV1.std.1 hV1.std.2.1 h3
    rw [if_neg (nI_ne_neg (by omega) (by decide)), if_neg (nI_ne_neg (by omega) (by decide)), gR_k hK.k hK.p4, gR_k hK.k hK.p1, gR_k hK.k hK.p1, gR_k hK.s1.1 hK.ch, cV_k hK.q4.1 e2]
    show ∃ V2, _ = some (howL S.1 S.2.1 o t, V2) ∧ _ ∧ _
    unfold howL
    cases hy : readL S.1 S.2.1 S.2.1.length o with
    | inl kb =>
      rw [hy] at h4
      obtain ⟨k, b⟩ := kb
      obtain ⟨rfl, h5, h6⟩ := h4
      have hk : k < 2 ^ 31 := by
        have key : ∀ (n : Nat) (t : List Int32), readL S.1 S.2.1 n t = .inl (k, b) → k < n := by
          intro n
          induction n with
          | zero => intro t z; unfold readL at z; cases z
          | succ n ih =>
            intro t z
            unfold readL at z
            split at z
            · have := ih _ z; omega
            · cases z; omega
        have := key _ _ hy
        have := hw.2.1.1
        omega
      rw [if_neg (nI_ne_neg hk (by decide))]
      exact ⟨V2, rfl, ⟨q1.1.tr (f2.wd (by omega) (by omega)), h6⟩, f1.tr f2⟩
    | inr x =>
      rw [hy] at h4
      obtain ⟨rfl, h5, h6⟩ := h4
      have hu2 : RowV V2 u Mu t ou := (hu.fr f1 hdu).fr f2 hdu
      rw [if_pos rfl, gR_k hK.k hK.p4, cV_k hK.q4.1 (pas_here hK.q4 V2), cV_k (herK hK.q4 V2).1 (row_sameAs (by decide) (herK hK.q4 V2) h6.2 (by omega) hKu hu2)]
      refine ⟨V2, ?_, ⟨q1.1.tr (f2.wd (by omega) (by omega)), h6.1⟩, f1.tr f2⟩
      show _ = some ((if x = t then (0 : Int32) else 1), V2)
      by_cases hxt : x = t
      · rw [decide_eq_true hxt, if_pos hxt, if_neg (by decide)]
      · rw [decide_eq_false hxt, if_neg hxt, if_pos (by decide)]
end CL1
