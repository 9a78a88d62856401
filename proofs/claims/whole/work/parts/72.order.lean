/-! PURE PART, 23: the orders of the chain -/
def nsL (l : List Int32) : List Nat := l.map Int32.toNatClampNeg
def okL (n : Nat) (l : List Int32) : Bool := decide ((nsL l).map nI = l) && (decide ((nsL l).length = n) && ((nsL l).all (fun d => decide (d < n)) && (List.range n).all (fun i => (List.range n).all (fun j => decide (i = j) || decide (l.getD i (-6) ≠ l.getD j (-6))))))
def chk (n : Nat) : Nat → List Int32 → Bool
  | 0, l => okL n l && !(nxO l).2
  | q + 1, l => okL n l && ((nxO l).2 && chk n q (nxO l).1)
set_option maxRecDepth 100000 in
theorem chk_1 : chk 1 0 ((List.range 1).map nI) = true := by decide +kernel
set_option maxRecDepth 100000 in
theorem chk_2 : chk 2 1 ((List.range 2).map nI) = true := by decide +kernel
set_option maxRecDepth 100000 in
theorem chk_3 : chk 3 5 ((List.range 3).map nI) = true := by decide +kernel
set_option maxRecDepth 100000 in
theorem chk_4 : chk 4 23 ((List.range 4).map nI) = true := by decide +kernel
set_option maxRecDepth 100000 in
theorem chk_5 : chk 5 119 ((List.range 5).map nI) = true := by decide +kernel
theorem chk_ex {n : Nat} (h1 : 1 ≤ n) (h5 : n ≤ 5) : ∃ q, q < 120 ∧ chk n q ((List.range n).map nI) = true := by
  have : n = 1 ∨ n = 2 ∨ n = 3 ∨ n = 4 ∨ n = 5 := by omega
  rcases this with rfl | rfl | rfl | rfl | rfl
  · exact ⟨0, by omega, chk_1⟩
  · exact ⟨1, by omega, chk_2⟩
  · exact ⟨5, by omega, chk_3⟩
  · exact ⟨23, by omega, chk_4⟩
  · exact ⟨119, by omega, chk_5⟩
theorem chk_ok {n q : Nat} {l : List Int32} (h : chk n q l = true) : okL n l = true := by
  cases q with
  | zero => unfold chk at h; exact (Bool.and_eq_true_iff.mp h).1
  | succ q => unfold chk at h; exact (Bool.and_eq_true_iff.mp h).1
theorem okL_all {n : Nat} {l : List Int32} (h : okL n l = true) : (nsL l).map nI = l ∧ l.length = n ∧ (∀ d ∈ nsL l, d < n) ∧ ∀ i j, i < n → j < n → i ≠ j → l.getD i (-6) ≠ l.getD j (-6) := by
  unfold okL at h
  obtain ⟨h1, h⟩ := Bool.and_eq_true_iff.mp h
  obtain ⟨h2, h⟩ := Bool.and_eq_true_iff.mp h
  obtain ⟨h3, h4⟩ := Bool.and_eq_true_iff.mp h
  have h2' := of_decide_eq_true h2
  unfold nsL at h2'
  rw [List.length_map] at h2'
  refine ⟨of_decide_eq_true h1, h2', fun d hd => of_decide_eq_true (List.all_eq_true.mp h3 d hd), fun i j hi hj hij => ?_⟩
  have a := List.all_eq_true.mp (List.all_eq_true.mp h4 i (List.mem_range.mpr hi)) j (List.mem_range.mpr hj)
  rcases Bool.or_eq_true_iff.mp a with a | a
  · exact absurd (of_decide_eq_true a) hij
  · exact of_decide_eq_true a
/-- the chain in an order; how long the text gets -/
def cpm (S : StT) (l : List Int32) : List Nat := (nsL l).map (fun d => S.2.1.getD d 0)
def lenL (S : StT) (l : List Int32) : Option Nat := match thruL S.1 (-6) (cpm S l) 0 S.2.2 with
  | .inl _ => none
  | .inr o => some o.length
def updO (S : StT) (b : Option (Nat × List Int32)) (l : List Int32) : Option (Nat × List Int32) := match lenL S l with
  | none => b
  | some m => match b with
    | none => some (m, l)
    | some (m0, l0) => if m < m0 then some (m, l) else some (m0, l0)
def srt (S : StT) : Nat → List Int32 → Option (Nat × List Int32) → Option (Nat × List Int32)
  | 0, l, b => updO S b l
  | q + 1, l, b => srt S q (nxO l).1 (updO S b l)
def oM : Option (Nat × List Int32) → Int32
  | none => -6
  | some (m, _) => nI m
def bL : Option (Nat × List Int32) → List Int32
  | none => []
  | some (_, l) => l
def okB (n : Nat) : Option (Nat × List Int32) → Prop
  | none => True
  | some (m, l) => m ≤ 400 ∧ l.length = n
theorem cpm_lt {S : StT} (hw : WfS S) {n : Nat} (hn : n = S.2.1.length) {l : List Int32} (h : okL n l = true) : ∀ x ∈ cpm S l, x < 5 := by
  intro x hx
  unfold cpm at hx
  obtain ⟨d, hd, rfl⟩ := List.mem_map.mp hx
  have hdn := (okL_all h).2.2.1 d hd
  rw [List.getD_eq_getElem?_getD, List.getElem?_eq_getElem (by omega)]
  exact hw.2.1.2 _ (List.getElem_mem _)
theorem cpm_len {S : StT} {n : Nat} {l : List Int32} (h : okL n l = true) : (cpm S l).length = n := by
  unfold cpm nsL
  rw [List.length_map, List.length_map]; exact (okL_all h).2.1
theorem lenL_le {S : StT} (hw : WfS S) {n : Nat} (hn : n = S.2.1.length) {l : List Int32} (h : okL n l = true) {m : Nat} (hm : lenL S l = some m) : m ≤ 400 := by
  unfold lenL at hm
  cases hx : thruL S.1 (-6) (cpm S l) 0 S.2.2 with
  | inl ek => rw [hx] at hm; cases hm
  | inr o =>
    rw [hx] at hm
    have := thruL_ok S.1 (-6) hw.1 _ 0 _ o (cpm_lt hw hn h) (by have := hw.2.2.1; omega) hw.2.2.2 hx
    cases hm; exact this.1
theorem okB_upd {S : StT} (hw : WfS S) {n : Nat} (hn : n = S.2.1.length) {l : List Int32} (h : okL n l = true) {b : Option (Nat × List Int32)} (hb : okB n b) : okB n (updO S b l) := by
  unfold updO
  cases hm : lenL S l with
  | none => exact hb
  | some m =>
    have hm4 := lenL_le hw hn h hm
    have hl := (okL_all h).2.1
    cases b with
    | none => exact ⟨hm4, hl⟩
    | some p =>
      obtain ⟨m0, l0⟩ := p
      show okB n (if m < m0 then _ else _)
      split
      · exact ⟨hm4, hl⟩
      · exact hb
section ORDC
variable {K : KT} {P : PT} {B : Nat} {V : VT} {pad : List Int32} {S : StT}
theorem c_inOrder_loop (hK : ClsK K P B) (hw : WfS S) {n0 : Nat} (hn0 : n0 = S.2.1.length) {l : List Int32} (hl : okL n0 l = true) {ol : Int32} :
    ∀ (n i : Nat) (V : VT), n0 - i < n → i ≤ n0 → CV V B pad S → RowV V (B + 84) 5 l ol → RowV V (B + 82) 6 (((cpm S l).take i).map nI) 0 →
      ∃ V2 x, f_X6_lengthInOrder_9 K P n B (B + 84) (nI i) V = some (x, V2) ∧ (match lenL S l with | none => x < 0 | some m => x = nI m) ∧ CQ B V V2 ∧ Fr (B + 75) (B + 84) V V2 := by
  intro n
  induction n with
  | zero => intro i V h; omega
  | succ n ih =>
    intro i V hn hi h hd hr
    obtain ⟨o1, o2, o3, o4⟩ := okL_all hl
    have h5 := hw.2.1
    have hcl := cpm_len (S := S) hl
    have hs := row_size hK.r7 hd
    rw [o2] at hs
    rw [f_X6_lengthInOrder_9, cV_k hK.r7.1 hs]
    by_cases hlt : i < n0
    · have hns : i < (nsL l).length := by unfold nsL; rw [List.length_map]; omega
      have hg : l.getD i (-6) = nI ((nsL l).getD i 0) := by
        have := map_nI_getD hns (-6)
        rw [o1] at this; exact this
      have hdn : (nsL l).getD i 0 < n0 := by
        rw [List.getD_eq_getElem?_getD, List.getElem?_eq_getElem hns]; exact o3 _ (List.getElem_mem _)
      have hat := row_atn (by decide) hK.r7 hd (j := i) (by omega)
      rw [hg] at hat
      have hat2 := row_atn (by decide) hK.chK h.std.2.1 (j := (nsL l).getD i 0) (by omega)
      rw [map_nI_getD (by omega)] at hat2
      obtain ⟨V1, e1, h1, f1⟩ := row_add (by decide) hK.r6 hr (by rw [List.length_map, List.length_take]; omega) (nI (S.2.1.getD ((nsL l).getD i 0) 0))
      have hm : ((cpm S l).take i).map nI ++ [nI (S.2.1.getD ((nsL l).getD i 0) 0)] = ((cpm S l).take (i + 1)).map nI := by
        have hc : (cpm S l)[i]? = some (S.2.1.getD ((nsL l).getD i 0) 0) := by
          unfold cpm
          have hg : (nsL l).getD i 0 = (nsL l)[i] := by rw [List.getD_eq_getElem?_getD, List.getElem?_eq_getElem hns]; rfl
          rw [List.getElem?_map, List.getElem?_eq_getElem hns, hg]; rfl
        rw [List.take_add_one, List.map_append, hc]; rfl
      rw [hm] at h1
      have q1 : CQ B V V1 := CQ.of h.pas f1 (by omega) (by omega)
      obtain ⟨V2, x, e2, h2, q2, f2⟩ := ih (i + 1) V1 (by omega) (by omega) (h.q q1) (hd.fr f1 (by omega)) h1
      refine ⟨V2, x, ?_, h2, q1.tr q2, (f1.wd (by omega) (by omega)).tr f2⟩
      rw [if_pos ((nI_ltI (by omega) (by omega)).mpr hlt), gR_k hK.k hK.p6, gR_k hK.k hK.p1, gR_k hK.s1.1 hK.ch, cV_k hK.r7.1 hat, cV_k hK.chK.1 hat2, cV_k hK.r6.1 e1, nI_1, e2]
    · rw [if_neg (fun z => hlt ((nI_ltI (by omega) (by omega)).mp z)), gR_k hK.k hK.p4, gR_k hK.k hK.p1, gR_k hK.k hK.p6, gR_k hK.k hK.p1, gR_k hK.s1.1 hK.tx]
      rw [List.take_of_length_le (by omega)] at hr
      obtain ⟨V2, res, e2, h2, q2, f2⟩ := c_thru hK h (by decide) hK.txK h.std.2.2 (by omega) (by decide) hK.r6 hr (by omega) (cpm_lt hw hn0 hl) (-6)
      refine ⟨V2, res, by rw [cV_k hK.q4.1 e2], ?_, q2, f2.wd (by omega) (by omega)⟩
      unfold lenL
      cases hx : thruL S.1 (-6) (cpm S l) 0 S.2.2 with
      | inl ek =>
        rw [hx] at h2
        obtain ⟨e, k⟩ := ek
        obtain ⟨rfl, -⟩ := h2
        exact err_neg (thruL_err _ _ _ _ _ _ _ hx).1
      | inr o =>
        rw [hx] at h2
        exact h2.1
theorem c_inOrder (hK : ClsK K P B) (hw : WfS S) {n0 : Nat} (hn0 : n0 = S.2.1.length) {l : List Int32} (hl : okL n0 l = true) {ol : Int32} (h : CV V B pad S) (hd : RowV V (B + 84) 5 l ol) :
      ∃ V2 x, f_X6_lengthInOrder K P B (B + 84) V = some (x, V2) ∧ (match lenL S l with | none => x < 0 | some m => x = nI m) ∧ CQ B V V2 ∧ Fr (B + 75) (B + 84) V V2 := by
  have h5 := hw.2.1.1
  obtain ⟨V1, e1, h1, f1⟩ := row_clear hK.r6 V
  have q1 : CQ B V V1 := CQ.of h.pas f1 (by omega) (by omega)
  obtain ⟨V2, x, e2, h2, q2, f2⟩ := c_inOrder_loop hK hw hn0 hl FU 0 V1 (FU_lt (by omega)) (by omega) (h.q q1) (hd.fr f1 (by omega)) (by rw [List.take_zero]; exact h1)
  rw [nI_0] at e2
  exact ⟨V2, x, by rw [f_X6_lengthInOrder, gR_k hK.k hK.p6, cV_k hK.r6.1 e1, e2], h2, q1.tr q2, (f1.wd (by omega) (by omega)).tr f2⟩
theorem c_order_loop (hK : ClsK K P B) (hw : WfS S) {n0 : Nat} (hn0 : n0 = S.2.1.length) (hn1 : 1 ≤ n0) :
    ∀ (q l3 fu : Nat) (V : VT) (l : List Int32) (b : Option (Nat × List Int32)) (ol ob : Int32), q + 1 < fu → l3 + q < 120 → chk n0 q l = true → okB n0 b → CV V B pad S → RowV V (B + 84) 5 l ol → RowV V (B + 86) 5 (bL b) ob →
      ∃ V2 ob2, f_X6_findShortestOrder_65 K P fu B (oM b) 1 (nI l3) V = some (oM (srt S q l b), V2) ∧ RowV V2 (B + 86) 5 (bL (srt S q l b)) ob2 ∧ CQ B V V2 := by
  intro q
  induction q with
  | zero =>
    intro l3 fu V l b ol ob hf hl3 hc hb h hd hs
    obtain ⟨fu, rfl⟩ : ∃ m, fu = m + 1 := ⟨fu - 1, by omega⟩
    have ok := chk_ok hc
    have hfl : (nxO l).2 = false := by
      unfold chk at hc
      have := (Bool.and_eq_true_iff.mp hc).2
      cases z : (nxO l).2 with
      | false => rfl
      | true => rw [z] at this; cases this
    obtain ⟨o1, o2, o3, o4⟩ := okL_all ok
    obtain ⟨V1, x, e1, h1, q1, f1⟩ := c_inOrder hK hw hn0 ok h hd
    have hd1 := hd.fr f1 (by omega)
    have hs1 := hs.fr f1 (by omega)
    have hV1 := h.q q1
    have h5 := hw.2.1.1
    have g116 : ∀ (V3 : VT) (b2 : Option (Nat × List Int32)) (os : Int32), CV V3 B pad S → RowV V3 (B + 84) 5 l ol → RowV V3 (B + 86) 5 (bL b2) os → ∃ V2 ob2, f_X6_findShortestOrder_116 K P (f_X6_findShortestOrder_65 K P fu) B (oM b2) (nI l3) V3 = some (oM b2, V2) ∧ RowV V2 (B + 86) 5 (bL b2) ob2 ∧ CQ B V3 V2 := by
      intro V3 b2 os h3 hd3 hs3
      obtain ⟨V4, e4, h4, f4⟩ := nextOrder (by decide) hK.r7 hd3 (by omega)
      obtain ⟨fu, rfl⟩ : ∃ m, fu = m + 1 := ⟨fu - 1, by omega⟩
      rw [hfl, show bI false = 0 from rfl] at e4
      exact ⟨V4, os, by rw [f_X6_findShortestOrder_116, gR_k hK.k hK.p7, cS_k e4, f_X6_findShortestOrder_65, if_pos rfl], hs3.fr f4 (by omega), CQ.of h3.pas f4 (by omega) (by omega)⟩
    have g102 : ∀ (m : Nat), ∃ V2 ob2, f_X6_findShortestOrder_102 K P (f_X6_findShortestOrder_65 K P fu) B (nI l3) (nI m) V1 = some (oM (some (m, l)), V2) ∧ RowV V2 (B + 86) 5 (bL (some (m, l))) ob2 ∧ CQ B V1 V2 := by
      intro m
      obtain ⟨V3, e3, h3, f3⟩ := row_copyFrom (V := V1) (by decide) hK.r8 (by decide) hK.r7 (by omega) (by omega) hd1 (by omega)
      have q3 : CQ B V1 V3 := CQ.of hV1.pas f3 (by omega) (by omega)
      obtain ⟨V4, ob2, e4, h4, q4⟩ := g116 V3 (some (m, l)) 0 (hV1.q q3) (hd1.fr f3 (by omega)) h3
      exact ⟨V4, ob2, by rw [f_X6_findShortestOrder_102, gR_k hK.k hK.p8, gR_k hK.k hK.p7, cV_k hK.r8.1 e3]; exact e4, h4, q3.tr q4⟩
    have fin : ∀ (b2 : Option (Nat × List Int32)) (r : VT → Option (Int32 × VT)), updO S b l = b2 → (∃ V2 ob2, r V1 = some (oM b2, V2) ∧ RowV V2 (B + 86) 5 (bL b2) ob2 ∧ CQ B V1 V2) → ∃ V2 ob2, r V1 = some (oM (srt S 0 l b), V2) ∧ RowV V2 (B + 86) 5 (bL (srt S 0 l b)) ob2 ∧ CQ B V V2 := by
      intro b2 r hu ⟨V2, ob2, e, h2, q2⟩
      show ∃ V2 ob2, r V1 = some (oM (updO S b l), V2) ∧ RowV V2 (B + 86) 5 (bL (updO S b l)) ob2 ∧ CQ B V V2
      rw [hu]; exact ⟨V2, ob2, e, h2, q1.tr q2⟩
    rw [f_X6_findShortestOrder_65, if_neg (by decide), if_pos (show nI l3 < 120 from (nI_ltI (b := 120) (by omega) (by decide)).mpr (by omega)), gR_k hK.k hK.p7, cV_k hK.k e1]
    cases hm : lenL S l with
    | none =>
      rw [hm] at h1
      have hx : x < 0 := h1
      rw [if_pos hx]
      exact fin b (fun V => f_X6_findShortestOrder_116 K P (f_X6_findShortestOrder_65 K P fu) B (oM b) (nI l3) V) (by unfold updO; rw [hm]) (g116 V1 b ob hV1 hd1 hs1)
    | some m =>
      rw [hm] at h1
      have hx : x = nI m := h1
      have hm4 := lenL_le hw hn0 ok hm
      subst hx
      rw [if_neg (nI_pos (by omega))]
      cases b with
      | none =>
        rw [if_pos (show oM none = -6 from rfl)]
        exact fin (some (m, l)) (fun V => f_X6_findShortestOrder_102 K P (f_X6_findShortestOrder_65 K P fu) B (nI l3) (nI m) V) (by unfold updO; rw [hm]) (g102 m)
      | some p =>
        obtain ⟨m0, l0⟩ := p
        have hb4 : m0 ≤ 400 := hb.1
        rw [if_neg (show ¬ oM (some (m0, l0)) = -6 from nI_ne_neg (by omega) (by decide))]
        by_cases hlt : m < m0
        · rw [if_pos (show nI m < oM (some (m0, l0)) from (nI_ltI (by omega) (by omega)).mpr hlt)]
          exact fin (some (m, l)) (fun V => f_X6_findShortestOrder_102 K P (f_X6_findShortestOrder_65 K P fu) B (nI l3) (nI m) V) (by unfold updO; rw [hm]; show (if m < m0 then _ else _) = _; rw [if_pos hlt]) (g102 m)
        · rw [if_neg (show ¬ nI m < oM (some (m0, l0)) from fun z => hlt ((nI_ltI (by omega) (by omega)).mp z))]
          exact fin (some (m0, l0)) (fun V => f_X6_findShortestOrder_116 K P (f_X6_findShortestOrder_65 K P fu) B (oM (some (m0, l0))) (nI l3) V) (by unfold updO; rw [hm]; show (if m < m0 then _ else _) = _; rw [if_neg hlt]) (g116 V1 _ ob hV1 hd1 hs1)
  | succ q ih =>
    intro l3 fu V l b ol ob hf hl3 hc hb h hd hs
    obtain ⟨fu, rfl⟩ : ∃ m, fu = m + 1 := ⟨fu - 1, by omega⟩
    have ok := chk_ok hc
    have hfl : (nxO l).2 = true ∧ chk n0 q (nxO l).1 = true := by
      unfold chk at hc
      exact Bool.and_eq_true_iff.mp (Bool.and_eq_true_iff.mp hc).2
    obtain ⟨o1, o2, o3, o4⟩ := okL_all ok
    obtain ⟨V1, x, e1, h1, q1, f1⟩ := c_inOrder hK hw hn0 ok h hd
    have hd1 := hd.fr f1 (by omega)
    have hs1 := hs.fr f1 (by omega)
    have hV1 := h.q q1
    have h5 := hw.2.1.1
    have g116 : ∀ (V3 : VT) (b2 : Option (Nat × List Int32)) (os : Int32), okB n0 b2 → CV V3 B pad S → RowV V3 (B + 84) 5 l ol → RowV V3 (B + 86) 5 (bL b2) os → ∃ V2 ob2, f_X6_findShortestOrder_116 K P (f_X6_findShortestOrder_65 K P fu) B (oM b2) (nI l3) V3 = some (oM (srt S q (nxO l).1 b2), V2) ∧ RowV V2 (B + 86) 5 (bL (srt S q (nxO l).1 b2)) ob2 ∧ CQ B V3 V2 := by
      intro V3 b2 os hb2 h3 hd3 hs3
      obtain ⟨V4, e4, h4, f4⟩ := nextOrder (by decide) hK.r7 hd3 (by omega)
      rw [hfl.1, show bI true = 1 from rfl] at e4
      have q4 : CQ B V3 V4 := CQ.of h3.pas f4 (by omega) (by omega)
      obtain ⟨V5, ob2, e5, h5, q5⟩ := ih (l3 + 1) fu V4 (nxO l).1 b2 ol os (by omega) (by omega) hfl.2 hb2 (h3.q q4) h4 (hs3.fr f4 (by omega))
      exact ⟨V5, ob2, by rw [f_X6_findShortestOrder_116, gR_k hK.k hK.p7, cS_k e4, nI_1, e5], h5, q4.tr q5⟩
    have g102 : ∀ (m : Nat), m ≤ 400 → ∃ V2 ob2, f_X6_findShortestOrder_102 K P (f_X6_findShortestOrder_65 K P fu) B (nI l3) (nI m) V1 = some (oM (srt S q (nxO l).1 (some (m, l))), V2) ∧ RowV V2 (B + 86) 5 (bL (srt S q (nxO l).1 (some (m, l)))) ob2 ∧ CQ B V1 V2 := by
      intro m hm4
      obtain ⟨V3, e3, h3, f3⟩ := row_copyFrom (V := V1) (by decide) hK.r8 (by decide) hK.r7 (by omega) (by omega) hd1 (by omega)
      have q3 : CQ B V1 V3 := CQ.of hV1.pas f3 (by omega) (by omega)
      obtain ⟨V4, ob2, e4, h4, q4⟩ := g116 V3 (some (m, l)) 0 ⟨hm4, o2⟩ (hV1.q q3) (hd1.fr f3 (by omega)) h3
      exact ⟨V4, ob2, by rw [f_X6_findShortestOrder_102, gR_k hK.k hK.p8, gR_k hK.k hK.p7, cV_k hK.r8.1 e3]; exact e4, h4, q3.tr q4⟩
    have fin : ∀ (b2 : Option (Nat × List Int32)) (r : VT → Option (Int32 × VT)), updO S b l = b2 → (∃ V2 ob2, r V1 = some (oM (srt S q (nxO l).1 b2), V2) ∧ RowV V2 (B + 86) 5 (bL (srt S q (nxO l).1 b2)) ob2 ∧ CQ B V1 V2) → ∃ V2 ob2, r V1 = some (oM (srt S (q + 1) l b), V2) ∧ RowV V2 (B + 86) 5 (bL (srt S (q + 1) l b)) ob2 ∧ CQ B V V2 := by
      intro b2 r hu ⟨V2, ob2, e, h2, q2⟩
      show ∃ V2 ob2, r V1 = some (oM (srt S q (nxO l).1 (updO S b l)), V2) ∧ RowV V2 (B + 86) 5 (bL (srt S q (nxO l).1 (updO S b l))) ob2 ∧ CQ B V V2
      rw [hu]; exact ⟨V2, ob2, e, h2, q1.tr q2⟩
    rw [f_X6_findShortestOrder_65, if_neg (by decide), if_pos (show nI l3 < 120 from (nI_ltI (b := 120) (by omega) (by decide)).mpr (by omega)), gR_k hK.k hK.p7, cV_k hK.k e1]
    cases hm : lenL S l with
    | none =>
      rw [hm] at h1
      have hx : x < 0 := h1
      rw [if_pos hx]
      exact fin b (fun V => f_X6_findShortestOrder_116 K P (f_X6_findShortestOrder_65 K P fu) B (oM b) (nI l3) V) (by unfold updO; rw [hm]) (g116 V1 b ob hb hV1 hd1 hs1)
    | some m =>
      rw [hm] at h1
      have hx : x = nI m := h1
      have hm4 := lenL_le hw hn0 ok hm
      subst hx
      rw [if_neg (nI_pos (by omega))]
      cases b with
      | none =>
        rw [if_pos (show oM none = -6 from rfl)]
        exact fin (some (m, l)) (fun V => f_X6_findShortestOrder_102 K P (f_X6_findShortestOrder_65 K P fu) B (nI l3) (nI m) V) (by unfold updO; rw [hm]) (g102 m hm4)
      | some p =>
        obtain ⟨m0, l0⟩ := p
        have hb4 : m0 ≤ 400 := hb.1
        rw [if_neg (show ¬ oM (some (m0, l0)) = -6 from nI_ne_neg (by omega) (by decide))]
        by_cases hlt : m < m0
        · rw [if_pos (show nI m < oM (some (m0, l0)) from (nI_ltI (by omega) (by omega)).mpr hlt)]
          exact fin (some (m, l)) (fun V => f_X6_findShortestOrder_102 K P (f_X6_findShortestOrder_65 K P fu) B (nI l3) (nI m) V) (by unfold updO; rw [hm]; show (if m < m0 then _ else _) = _; rw [if_pos hlt]) (g102 m hm4)
        · rw [if_neg (show ¬ nI m < oM (some (m0, l0)) from fun z => hlt ((nI_ltI (by omega) (by omega)).mp z))]
          exact fin (some (m0, l0)) (fun V => f_X6_findShortestOrder_116 K P (f_X6_findShortestOrder_65 K P fu) B (oM (some (m0, l0))) (nI l3) V) (by unfold updO; rw [hm]; show (if m < m0 then _ else _) = _; rw [if_neg hlt]) (g116 V1 _ ob hb hV1 hd1 hs1)
end ORDC
