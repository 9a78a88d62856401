/-! PURE PART, 19: the shortest spill -/
def tx (pad : List Int32) (b n k : Nat) : List Int32 := (dgL b n k).map (fun d => pad.getD d (-6))
def srI (f : Nat → Bool) : Nat → Nat → Option Nat
  | 0, _ => none
  | q + 1, k => if f k = true then some k else srI f q (k + 1)
def fndB (S : StT) (j : Nat) (T : List Int32) : Bool := decide (0 < outL S S.2.1 T (nI j))
def srO (pad : List Int32) (S : StT) (j b : Nat) : Nat → Nat → Option (List Int32)
  | 0, _ => none
  | q + 1, n => match srI (fun k => fndB S j (tx pad b n k)) (b ^ n) 0 with
    | some k => some (tx pad b n k)
    | none => srO pad S j b q (n + 1)
theorem tx_len (pad : List Int32) (b n k : Nat) : (tx pad b n k).length = n := by unfold tx; rw [List.length_map, dgL_len]
theorem tx_sg {pad : List Int32} (hs : SgL pad) (h0 : 0 < pad.length) (n k : Nat) : SgL (tx pad pad.length n k) := by
  intro s h
  unfold tx at h
  obtain ⟨d, hd, rfl⟩ := List.mem_map.mp h
  exact sg_at hs (dgL_lt h0 n k d hd)
theorem pow_le {b n : Nat} (hb : b ≤ 5) (hn : n ≤ 4) : b ^ n ≤ 625 := Nat.le_trans (Nat.pow_le_pow_left hb n) (Nat.le_trans (Nat.pow_le_pow_right (by decide) hn) (by decide))
theorem howL_012 (ly : Nat → LayT) (c : List Nat) (o f : List Int32) : howL ly c o f = 0 ∨ howL ly c o f = 1 ∨ howL ly c o f = 2 := by
  unfold howL
  split
  · exact Or.inr (Or.inr rfl)
  · split
    · exact Or.inl rfl
    · exact Or.inr (Or.inl rfl)
theorem fndB_iff (S : StT) (j : Nat) (T : List Int32) : (fndB S j T = true → outL S S.2.1 T (nI j) = 1 ∨ outL S S.2.1 T (nI j) = 2) ∧ (fndB S j T = false → ¬ outL S S.2.1 T (nI j) = 1 ∧ ¬ outL S S.2.1 T (nI j) = 2) := by
  unfold fndB outL
  cases hx : thruL S.1 (nI j) S.2.1 0 T with
  | inl ek =>
    obtain ⟨e, k⟩ := ek
    show (decide (0 < e) = true → e = 1 ∨ e = 2) ∧ (decide (0 < e) = false → ¬ e = 1 ∧ ¬ e = 2)
    rcases (thruL_err _ _ _ _ _ _ _ hx).1 with rfl | rfl
    · exact ⟨fun z => absurd z (by decide), fun _ => by decide⟩
    · exact ⟨fun z => absurd z (by decide), fun _ => by decide⟩
  | inr o =>
    show (decide (0 < howL S.1 S.2.1 o T) = true → howL S.1 S.2.1 o T = 1 ∨ howL S.1 S.2.1 o T = 2) ∧ (decide (0 < howL S.1 S.2.1 o T) = false → ¬ howL S.1 S.2.1 o T = 1 ∧ ¬ howL S.1 S.2.1 o T = 2)
    rcases howL_012 S.1 S.2.1 o T with h | h | h <;> rw [h]
    · exact ⟨fun z => absurd z (by decide), fun _ => by decide⟩
    · exact ⟨fun _ => Or.inl rfl, fun z => absurd z (by decide)⟩
    · exact ⟨fun _ => Or.inr rfl, fun z => absurd z (by decide)⟩
def dsB (pad : List Int32) : Nat → Nat → Bool
  | 0, _ => true
  | q + 1, i => if pad.getD i (-6) ∈ pad.take i then false else dsB pad q (i + 1)
section SPR
variable {K : KT} {P : PT} {B : Nat} {V : VT} {pad : List Int32} {S : StT}
theorem c_isRow_loop (hK : ClsK K P B) (h : CV V B pad S) (hl : pad.length ≤ 60) :
    ∀ (n i : Nat), pad.length - i < n → i ≤ pad.length → f_X6_padIsSpillRow_26 K P n B (nI i) V = some (bI (dsB pad (pad.length - i) i), V) := by
  intro n
  induction n with
  | zero => intro i h; omega
  | succ n ih =>
    intro i hn hi
    rw [f_X6_padIsSpillRow_26, gR_k hK.k hK.p0, cV_k hK.r0.1 (row_size hK.r0 h.pad)]
    by_cases hlt : i < pad.length
    · obtain ⟨q, hq⟩ : ∃ q, pad.length - i = q + 1 := ⟨pad.length - i - 1, by omega⟩
      rw [if_pos ((nI_ltI (by omega) (by omega)).mpr hlt), gR_k hK.k hK.p0, gR_k hK.k hK.p0, cV_k hK.r0.1 (row_atn (by decide) hK.r0 h.pad (by omega)), cV_k hK.r0.1 (row_hasAhead (by decide) hK.r0 h.pad _ (by omega)), hq]
      unfold dsB
      by_cases hm : pad.getD i (-6) ∈ pad.take i
      · rw [decide_eq_true hm, if_neg (by decide), if_pos hm]; rfl
      · rw [decide_eq_false hm, if_pos (by decide), if_neg hm, nI_1, ih (i + 1) (by omega) (by omega), show pad.length - (i + 1) = q by omega]
    · rw [if_neg (fun z => hlt ((nI_ltI (by omega) (by omega)).mp z)), show pad.length - i = 0 by omega]; rfl
theorem m_isRow_in {M : Nat} (hK : MoK K P M) (hp : PadM V M pad) (hl : pad.length ≤ 60) {i : Nat} (hi : i < pad.length) (k12 : Nat → Int32 → Int32 → VT → Option (Int32 × VT)) :
    ∀ (n j : Nat) (b : Bool), i - j < n → j ≤ i → f_X7_isRow_26 K P k12 n M (bI b) (nI i) (nI j) V = k12 M (bI (b && !decide (pad.getD i (-6) ∈ (pad.take i).drop j))) (nI (i + 1)) V := by
  intro n
  induction n with
  | zero => intro j b h; omega
  | succ n ih =>
    intro j b hn hj
    rw [f_X7_isRow_26]
    by_cases hlt : j < i
    · have hlt2 : j < (pad.take i).length := by rw [List.length_take]; omega
      have hg : (pad.take i).getD j (-6) = pad.getD j (-6) := by
        rw [List.getD_eq_getElem?_getD, List.getD_eq_getElem?_getD, List.getElem?_take, if_pos hlt]
      rw [if_pos ((nI_ltI (by omega) (by omega)).mpr hlt), drop_next hlt2 (-6), hg]
      have i0 := ih (j + 1) false (by omega) (by omega)
      have i1 := ih (j + 1) true (by omega) (by omega)
      rw [show bI false = 0 from rfl] at i0
      rw [show bI true = 1 from rfl] at i1
      cases b with
      | false => rw [show bI false = 0 from rfl, if_pos rfl, f_X7_isRow_54, f_X7_isRow_55, nI_1, i0]; rfl
      | true =>
        rw [show bI true = 1 from rfl, if_neg (by decide), gR_k hK.1 hK.p1, aI_n hK.k1 (by omega) (by decide), hp.2.get (by omega) (-6), gR_k hK.1 hK.p1, aI_n hK.k1 (by omega) (by decide), hp.2.get (by omega) (-6)]
        by_cases hx : pad.getD j (-6) = pad.getD i (-6)
        · rw [if_pos hx, f_X7_isRow_54, f_X7_isRow_55, nI_1, i0, hx, decide_eq_true (List.mem_cons_self)]; rfl
        · have z2 : ¬ pad.getD i (-6) = pad.getD j (-6) := fun e => hx e.symm
          rw [if_neg hx, f_X7_isRow_55, nI_1, i1]
          have : decide (pad.getD i (-6) ∈ pad.getD j (-6) :: (pad.take i).drop (j + 1)) = decide (pad.getD i (-6) ∈ (pad.take i).drop (j + 1)) := by
            simp only [List.mem_cons, z2, false_or]
          rw [this]
    · rw [if_neg (fun z => hlt ((nI_ltI (by omega) (by omega)).mp z)), List.drop_eq_nil_of_le (by rw [List.length_take]; omega), nI_1]
      simp
theorem m_isRow_loop {M : Nat} (hK : MoK K P M) (hp : PadM V M pad) (hl : pad.length ≤ 60) :
    ∀ (n i : Nat), pad.length - i + 1 < n → i ≤ pad.length → f_X7_isRow_12 K P n M 1 (nI i) V = some (bI (dsB pad (pad.length - i) i), V) := by
  intro n
  induction n with
  | zero => intro i h; omega
  | succ n ih =>
    intro i hn hi
    rw [f_X7_isRow_12, gI_k hK.1, hp.1]
    by_cases hlt : i < pad.length
    · obtain ⟨q, hq⟩ : ∃ q, pad.length - i = q + 1 := ⟨pad.length - i - 1, by omega⟩
      have hin := m_isRow_in hK hp hl hlt (f_X7_isRow_12 K P n) FU 0 true (FU_lt (by omega)) (by omega)
      rw [nI_0, show bI true = 1 from rfl, List.drop_zero] at hin
      rw [if_pos ((nI_ltI (by omega) (by omega)).mpr hlt), if_neg (by decide), hin, hq]
      unfold dsB
      by_cases hm : pad.getD i (-6) ∈ pad.take i
      · rw [decide_eq_true hm, if_pos hm, show bI (true && !true) = 0 from rfl]
        obtain ⟨n, rfl⟩ : ∃ m, n = m + 1 := ⟨n - 1, by omega⟩
        rw [f_X7_isRow_12, gI_k hK.1, if_pos rfl, ite_self]; rfl
      · rw [decide_eq_false hm, if_neg hm, show bI (true && !false) = 1 from rfl, ih (i + 1) (by omega) (by omega), show pad.length - (i + 1) = q by omega]
    · rw [if_neg (fun z => hlt ((nI_ltI (by omega) (by omega)).mp z)), show pad.length - i = 0 by omega]; rfl
def rowB (pad : List Int32) : Bool := decide (1 ≤ pad.length ∧ pad.length ≤ 5) && dsB pad pad.length 0
theorem c_isRow (hK : ClsK K P B) (h : CV V B pad S) (hl : pad.length ≤ 60) : f_X6_padIsSpillRow K P B V = some (bI (rowB pad), V) := by
  have hs := row_size hK.r0 h.pad
  unfold rowB
  rw [f_X6_padIsSpillRow, gR_k hK.k hK.p0, cV_k hK.r0.1 hs]
  by_cases h1 : pad.length < 1
  · rw [if_pos (show nI pad.length < 1 from (nI_ltI (b := 1) (by omega) (by decide)).mpr h1), decide_eq_false (by omega)]; rfl
  · rw [if_neg (show ¬ nI pad.length < 1 from nI_notlt (b := 1) (by omega) (by decide) (by omega)), gR_k hK.k hK.p0, cV_k hK.r0.1 hs]
    by_cases h5 : 5 < pad.length
    · rw [if_pos (show 5 < nI pad.length from (nI_ltI (a := 5) (by decide) (by omega)).mpr h5), decide_eq_false (by omega)]; rfl
    · rw [if_neg (show ¬ 5 < nI pad.length from nI_notlt (a := 5) (by decide) (by omega) (by omega)), decide_eq_true (by omega)]
      have := c_isRow_loop hK h hl FU 1 (FU_lt (by omega)) (by omega)
      rw [show nI 1 = 1 from rfl] at this
      rw [this]
      obtain ⟨q, hq⟩ : ∃ q, pad.length = q + 1 := ⟨pad.length - 1, by omega⟩
      rw [hq]
      show _ = some (bI (true && (if pad.getD 0 (-6) ∈ pad.take 0 then false else dsB pad q 1)), V)
      rw [if_neg (by simp)]; rfl
theorem m_isRow {M : Nat} (hK : MoK K P M) (hp : PadM V M pad) (hl : pad.length ≤ 60) : f_X7_isRow K P M V = some (bI (rowB pad), V) := by
  have hin : inB (nI pad.length) 1 5 = decide (1 ≤ pad.length ∧ pad.length ≤ 5) := inB_nI (lo := 1) (hi := 5) (by omega) (by decide) (by decide)
  unfold rowB
  rw [f_X7_isRow, gI_k hK.1, hp.1, cS_k (m_in _ _ _ _), hin]
  by_cases h : 1 ≤ pad.length ∧ pad.length ≤ 5
  · rw [decide_eq_true h, show bI true = 1 from rfl]
    have := m_isRow_loop hK hp hl FU 0 (FU_lt (by omega)) (by omega)
    rw [nI_0] at this
    rw [this]; rfl
  · rw [decide_eq_false h, show bI false = 0 from rfl]
    have hfu : FU = (FU - 1) + 1 := by unfold FU; omega
    rw [hfu, f_X7_isRow_12, gI_k hK.1, if_pos rfl, ite_self]; rfl
/-! the class looks for it -/
theorem c_spell_loop (hK : ClsK K P B) {ds : List Nat} (hd5 : ds.length ≤ 5) (hlt : ∀ d ∈ ds, d < 1000) :
    ∀ (n i : Nat) (V : VT), ds.length - i < n → i ≤ ds.length → CV V B pad S → RowV V (B + 84) 5 (ds.map nI) 0 → RowV V (B + 80) 12 ((ds.take i).map (fun d => pad.getD d (-6))) 0 → ∃ V2, f_X6_spellTrial_9 K P n B (nI i) V = some ((), V2) ∧ RowV V2 (B + 80) 12 (ds.map (fun d => pad.getD d (-6))) 0 ∧ Fr (B + 80) (B + 82) V V2 := by
  intro n
  induction n with
  | zero => intro i V h; omega
  | succ n ih =>
    intro i V hn hi h hd hr
    have hs := row_size hK.r7 hd
    rw [List.length_map] at hs
    rw [f_X6_spellTrial_9, gR_k hK.k hK.p7, cV_k hK.r7.1 hs]
    by_cases hl : i < ds.length
    · have hat := row_atn (by decide) hK.r7 hd (j := i) (by omega)
      rw [map_nI_getD hl] at hat
      have hdi : ds.getD i 0 < 1000 := by
        rw [List.getD_eq_getElem?_getD, List.getElem?_eq_getElem hl]; exact hlt _ (List.getElem_mem _)
      obtain ⟨V1, e1, h1, f1⟩ := row_add (by decide) hK.r5 hr (by rw [List.length_map, List.length_take]; omega) (pad.getD (ds.getD i 0) (-6))
      have hm : (ds.take i).map (fun d => pad.getD d (-6)) ++ [pad.getD (ds.getD i 0) (-6)] = (ds.take (i + 1)).map (fun d => pad.getD d (-6)) := by
        have hg : ds.getD i 0 = ds[i] := by rw [List.getD_eq_getElem?_getD, List.getElem?_eq_getElem hl]; rfl
        rw [List.take_add_one, List.map_append, hg, List.getElem?_eq_getElem hl]; rfl
      rw [hm] at h1
      have q1 : CQ B V V1 := CQ.of h.pas f1 (by omega) (by omega)
      obtain ⟨V2, e2, h2, f2⟩ := ih (i + 1) V1 (by omega) (by omega) (h.q q1) (hd.fr f1 (by omega)) h1
      refine ⟨V2, ?_, h2, f1.tr f2⟩
      rw [if_pos ((nI_ltI (by omega) (by omega)).mpr hl), gR_k hK.k hK.p5, gR_k hK.k hK.p0, gR_k hK.k hK.p7, cV_k hK.r7.1 hat, cV_k hK.r0.1 (row_atn (by decide) hK.r0 h.pad (by omega)), cV_k hK.r5.1 e1, nI_1, e2]
    · rw [if_neg (fun z => hl ((nI_ltI (by omega) (by omega)).mp z))]
      rw [List.take_of_length_le (by omega)] at hr
      exact ⟨V, rfl, hr, Fr.rf⟩
theorem c_spell (hK : ClsK K P B) {ds : List Nat} (hd5 : ds.length ≤ 5) (hlt : ∀ d ∈ ds, d < 1000) (h : CV V B pad S) (hd : RowV V (B + 84) 5 (ds.map nI) 0) : ∃ V2, f_X6_spellTrial K P B V = some ((), V2) ∧ RowV V2 (B + 80) 12 (ds.map (fun d => pad.getD d (-6))) 0 ∧ Fr (B + 80) (B + 82) V V2 := by
  obtain ⟨V1, e1, h1, f1⟩ := row_clear hK.r5 V
  have q1 : CQ B V V1 := CQ.of h.pas f1 (by omega) (by omega)
  obtain ⟨V2, e2, h2, f2⟩ := c_spell_loop hK hd5 hlt FU 0 V1 (FU_lt (by omega)) (by omega) (h.q q1) (hd.fr f1 (by omega)) h1
  rw [nI_0] at e2
  exact ⟨V2, by rw [f_X6_spellTrial, gR_k hK.k hK.p5, cV_k hK.r5.1 e1, e2], h2, f1.tr f2⟩
theorem c_sp_in (hK : ClsK K P B) (hw : WfS S) (h1p : 1 ≤ pad.length) (h5p : pad.length ≤ 5) {j n : Nat} (hn : n ≤ 4) (kk : Nat → Int32 → Int32 → VT → Option (Int32 × VT)) :
    ∀ (q k : Nat) (fu : Nat) (V : VT), q < fu → k + q = pad.length ^ n → CV V B pad S → RowV V (B + 84) 5 ((dgL pad.length n k).map nI) 0 →
      ∃ V2, CQ B V V2 ∧ match srI (fun k => fndB S j (tx pad pad.length n k)) q k with
        | some k2 => f_X6_findShortestSpill_19 K P kk fu B (nI j) (nI n) (bI (decide (k < pad.length ^ n))) (nI k) V = some (1, V2) ∧ RowV V2 (B + 80) 12 (tx pad pad.length n k2) 0
        | none => f_X6_findShortestSpill_19 K P kk fu B (nI j) (nI n) (bI (decide (k < pad.length ^ n))) (nI k) V = kk B (nI j) (nI (n + 1)) V2 := by
  intro q
  induction q with
  | zero =>
    intro k fu V hf hk h hd
    obtain ⟨fu, rfl⟩ : ∃ m, fu = m + 1 := ⟨fu - 1, by omega⟩
    refine ⟨V, CQ.rf h.pas, ?_⟩
    show _ = _
    rw [f_X6_findShortestSpill_19, decide_eq_false (by omega), show bI false = 0 from rfl, if_pos rfl, f_X6_findShortestSpill_88, nI_1]
  | succ q ih =>
    intro k fu V hf hk h hd
    obtain ⟨fu, rfl⟩ : ∃ m, fu = m + 1 := ⟨fu - 1, by omega⟩
    have hp := pow_le h5p hn
    have hlen := dgL_len pad.length n k
    obtain ⟨V1, e1, h1, f1⟩ := c_spell hK (ds := dgL pad.length n k) (by omega) (fun d hd => by have := dgL_lt h1p n k d hd; omega) h hd
    have q1 : CQ B V V1 := CQ.of h.pas f1 (by omega) (by omega)
    have hV1 := h.q q1
    have h1' : RowV V1 (B + 80) 12 (tx pad pad.length n k) 0 := h1
    obtain ⟨V2, e2, q2, f2⟩ := c_outcome hK hV1 hw (by decide) hK.r5 h1' (by omega) (by decide) hK.chK hV1.std.2.1 (by omega) hw.2.1.2 (nI j)
    have h2' := h1'.fr f2 (by omega)
    have hd2 := (hd.fr f1 (by omega)).fr f2 (by omega)
    have hV2 := hV1.q q2
    unfold srI
    have start : ∀ r, (if outL S S.2.1 (tx pad pad.length n k) (nI j) = 1 then rB 1 V2 else if outL S S.2.1 (tx pad pad.length n k) (nI j) = 2 then rB 1 V2 else gR K P B 4 7 fun b8 => gR K P B 4 0 fun b9 => cV K b9 2 (f_X4_size K P b9 V2) fun x11 V10 => cS (f_X0_nextDigits K P b8 x11 V10) fun x13 V12 => (f_X6_findShortestSpill_19 K P kk fu) B (nI j) (nI n) x13 (nI k + 1) V12) = r → f_X6_findShortestSpill_19 K P kk (fu + 1) B (nI j) (nI n) (bI (decide (k < pad.length ^ n))) (nI k) V = r := by
      intro r hr
      rw [f_X6_findShortestSpill_19, decide_eq_true (by omega), show bI true = 1 from rfl, if_neg (by decide), if_pos (show nI k < 625 from (nI_ltI (b := 625) (by omega) (by decide)).mpr (by omega)), cV_k hK.k e1, gR_k hK.k hK.p5, gR_k hK.k hK.p1, gR_k hK.s1.1 hK.ch, cV_k hK.k e2]
      exact hr
    cases hfn : fndB S j (tx pad pad.length n k) with
    | true =>
      rw [if_pos rfl]
      refine ⟨V2, q1.tr q2, start _ ?_, h2'⟩
      rcases (fndB_iff S j _).1 hfn with z | z
      · rw [if_pos z]; rfl
      · rw [if_neg (by rw [z]; decide), if_pos z]; rfl
    | false =>
      rw [if_neg (by decide)]
      obtain ⟨z1, z2⟩ := (fndB_iff S j _).2 hfn
      obtain ⟨V3, e3, h3, f3⟩ := nextDigits (by decide) hK.r7 hd2 (nI pad.length)
      rw [List.length_map, hlen, nd_dg h1p (by omega) n k (by omega)] at e3 h3
      have q3 : CQ B V2 V3 := CQ.of hV2.pas f3 (by omega) (by omega)
      obtain ⟨V4, q4, r4⟩ := ih (k + 1) fu V3 (by omega) (by omega) (hV2.q q3) h3
      refine ⟨V4, ((q1.tr q2).tr q3).tr q4, ?_⟩
      have go : f_X6_findShortestSpill_19 K P kk (fu + 1) B (nI j) (nI n) (bI (decide (k < pad.length ^ n))) (nI k) V = f_X6_findShortestSpill_19 K P kk fu B (nI j) (nI n) (bI (decide (k + 1 < pad.length ^ n))) (nI (k + 1)) V3 := by
        refine start _ ?_
        rw [if_neg z1, if_neg z2, gR_k hK.k hK.p7, gR_k hK.k hK.p0, cV_k hK.r0.1 (row_size hK.r0 hV2.pad), cS_k e3, nI_1]
      rw [go]; exact r4
theorem c_find (hK : ClsK K P B) (hw : WfS S) (h1p : 1 ≤ pad.length) (h5p : pad.length ≤ 5) {j : Nat} :
    ∀ (q n : Nat) (fu : Nat) (V : VT), q < fu → n + q = 5 → CV V B pad S → ∃ V2, CQ B V V2 ∧ match srO pad S j pad.length q n with
      | some T => f_X6_findShortestSpill_2 K P fu B (nI j) (nI n) V = some (1, V2) ∧ RowV V2 (B + 80) 12 T 0
      | none => f_X6_findShortestSpill_2 K P fu B (nI j) (nI n) V = some (0, V2) := by
  intro q
  induction q with
  | zero =>
    intro n fu V hf hn h
    obtain ⟨fu, rfl⟩ : ∃ m, fu = m + 1 := ⟨fu - 1, by omega⟩
    refine ⟨V, CQ.rf h.pas, ?_⟩
    show _ = _
    rw [f_X6_findShortestSpill_2, show n = 5 by omega, if_pos (by decide), rB_0]
  | succ q ih =>
    intro n fu V hf hn h
    obtain ⟨fu, rfl⟩ : ∃ m, fu = m + 1 := ⟨fu - 1, by omega⟩
    obtain ⟨V1, e1, h1, f1⟩ := row_fillZeros (by decide) hK.r7 (k := n) (by omega) V
    have q1 : CQ B V V1 := CQ.of h.pas f1 (by omega) (by omega)
    have hz : (List.replicate n (0 : Int32)) = (dgL pad.length n 0).map nI := by
      rw [dgL_zero, List.map_replicate, nI_0]
    rw [hz] at h1
    have hp := pow_le h5p (show n ≤ 4 by omega)
    have hp0 : 0 < pad.length ^ n := Nat.pow_pos h1p
    obtain ⟨V2, q2, r2⟩ := c_sp_in hK hw h1p h5p (j := j) (show n ≤ 4 by omega) (f_X6_findShortestSpill_2 K P fu) (pad.length ^ n) 0 FU V1 (FU_lt (by omega)) (by omega) (h.q q1) h1
    rw [decide_eq_true hp0, nI_0, show bI true = 1 from rfl] at r2
    have go : f_X6_findShortestSpill_2 K P (fu + 1) B (nI j) (nI n) V = f_X6_findShortestSpill_19 K P (f_X6_findShortestSpill_2 K P fu) FU B (nI j) (nI n) 1 0 V1 := by
      rw [f_X6_findShortestSpill_2, if_neg (show ¬ 4 < nI n from nI_notlt (a := 4) (by decide) (by omega) (by omega)), gR_k hK.k hK.p7, cV_k hK.r7.1 e1]
    unfold srO
    cases hs : srI (fun k => fndB S j (tx pad pad.length n k)) (pad.length ^ n) 0 with
    | some k =>
      rw [hs] at r2
      exact ⟨V2, q1.tr q2, go.trans r2.1, r2.2⟩
    | none =>
      rw [hs] at r2
      obtain ⟨V3, q3, r3⟩ := ih (n + 1) fu V2 (by omega) (by omega) ((h.q q1).q q2)
      refine ⟨V3, (q1.tr q2).tr q3, ?_⟩
      rw [go, r2]; exact r3
end SPR
