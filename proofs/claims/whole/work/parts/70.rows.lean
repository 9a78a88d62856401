/-! PURE PART, 21: the rows of layers that read the pad wholly -/
def frL (ly : Nat → LayT) : List Nat → List Int32 → Bool
  | [], _ => true
  | d :: ds, t => if (takeOffL (ly d) t).1 = -6 then frL ly ds (takeOffL (ly d) t).2 else false
theorem readL_fr (ly : Nat → LayT) (c : List Nat) : ∀ (n : Nat) (t : List Int32), n ≤ c.length → (match readL ly c n t with | .inr _ => true | .inl _ => false) = frL ly (c.take n).reverse t
  | 0, t, _ => by rw [List.take_zero]; rfl
  | n + 1, t, h => by
    have hg : c.take (n + 1) = c.take n ++ [c.getD n 0] := by
      rw [List.take_add_one, List.getD_eq_getElem?_getD, List.getElem?_eq_getElem (by omega)]; rfl
    rw [hg, List.reverse_append]
    show _ = frL ly (c.getD n 0 :: (c.take n).reverse) t
    unfold readL frL
    by_cases hb : (takeOffL (ly (c.getD n 0)) t).1 = -6
    · rw [if_pos hb, if_pos hb]; exact readL_fr ly c n _ (by omega)
    · rw [if_neg hb, if_neg hb]
def fitB (S : StT) (pad : List Int32) (ds : List Nat) : Bool := if ds.any (fun d => afB (S.1 d)) = true then false else frL S.1 ds.reverse pad
def asN (ds : List Nat) : Nat := ds.foldl (fun x d => x * 10 + d) 1
def rwI (S : StT) (pad : List Int32) (x : Int32) (n : Nat) : Nat → Nat → Nat → Nat ⊕ Nat
  | 0, _, c => .inr c
  | q + 1, k, c => if fitB S pad (dgL 5 n k) = true then (if nI c = x then .inl k else rwI S pad x n q (k + 1) (c + 1)) else rwI S pad x n q (k + 1) c
def rwO (S : StT) (pad : List Int32) (x : Int32) : Nat → Nat → Nat → Int32
  | 0, _, c => if x = -1 then nI c else -6
  | q + 1, n, c => match rwI S pad x n (5 ^ n) 0 c with
    | .inl k => nI (asN (dgL 5 n k))
    | .inr c2 => rwO S pad x q (n + 1) c2
section ROW9
variable {K : KT} {P : PT} {B : Nat} {V : VT} {pad : List Int32} {S : StT} {M : Nat}
theorem c_wholly_loop (hK : ClsK K P B) (hw : WfS S) (hl : pad.length ≤ 60) {ds : List Nat} (hd5 : ∀ d ∈ ds, d < 5) (hdl : ds.length ≤ 5) :
    ∀ (n i : Nat) (V : VT), ds.length - i < n → i ≤ ds.length → CV V B pad S → RowV V (B + 84) 5 (ds.map nI) 0 → ∃ V2, f_X6_readsPadWholly_2 K P n B (B + 84) (nI i) V = some (bI (if (ds.drop i).any (fun d => afB (S.1 d)) = true then false else frL S.1 ds.reverse pad), V2) ∧ CQ B V V2 ∧ Fr (B + 75) (B + 80) V V2 := by
  intro n
  induction n with
  | zero => intro i V h; omega
  | succ n ih =>
    intro i V hn hi h hd
    have hs := row_size hK.r7 hd
    rw [List.length_map] at hs
    rw [f_X6_readsPadWholly_2, cV_k hK.r7.1 hs]
    by_cases hlt : i < ds.length
    · have hat := row_atn (by decide) hK.r7 hd (j := i) (by omega)
      rw [map_nI_getD hlt] at hat
      have hdi : ds.getD i 0 < 5 := by
        rw [List.getD_eq_getElem?_getD, List.getElem?_eq_getElem hlt]; exact hd5 _ (List.getElem_mem _)
      have hlk := (hK.s1.2.2.2.2.2 _ hdi).2
      rw [if_pos ((nI_ltI (by omega) (by omega)).mpr hlt), gR_k hK.k hK.p1, cV_k hK.r7.1 hat, cV_k hK.s1.1 (std_layerAt hK.s1 hdi V), cV_k hlk.1 (lay_isAsAtFirst hlk (h.std.1 _ hdi)), drop_nextN hlt]
      cases ha : afB (S.1 (ds.getD i 0)) with
      | true =>
        rw [show bI true = 1 from rfl, if_neg (by decide), rB_0]
        refine ⟨V, ?_, CQ.rf h.pas, Fr.rf⟩
        rw [List.any_cons, ha, Bool.true_or, if_pos rfl]; rfl
      | false =>
        rw [show bI false = 0 from rfl, if_pos rfl, nI_1]
        obtain ⟨V2, e2, q2, f2⟩ := ih (i + 1) V (by omega) (by omega) h hd
        refine ⟨V2, ?_, q2, f2⟩
        rw [List.any_cons, ha, Bool.false_or]; exact e2
    · rw [if_neg (fun z => hlt ((nI_ltI (by omega) (by omega)).mp z)), List.drop_eq_nil_of_le (by omega), gR_k hK.k hK.p4, gR_k hK.k hK.p0]
      obtain ⟨V1, e1, h1, f1⟩ := pas_begin hK.q4 h.pas (by decide) hK.r0 h.pad (by omega)
      have q1 : CQ B V V1 := CQ.of h.pas f1 (by omega) (by omega)
      have hV1 := h.q q1
      obtain ⟨V2, res, e2, h2, f2⟩ := pas_readBack hK.q4 hK.s1 (by omega) (by decide) hK.r7 (by omega) hd5 hV1.std.1 (hd.fr f1 (by omega)) h1
      have hfr := readL_fr S.1 ds ds.length pad (Nat.le_refl _)
      rw [List.take_length] at hfr
      rw [cV_k hK.q4.1 e1, gR_k hK.k hK.p4, gR_k hK.k hK.p1, cV_k hK.q4.1 e2, ← hfr]
      have fr : Fr (B + 75) (B + 80) V V2 := (f1.wd (by omega) (by omega)).tr (f2.wd (by omega) (by omega))
      cases hx : readL S.1 ds ds.length pad with
      | inl kb =>
        rw [hx] at h2
        obtain ⟨k, b⟩ := kb
        obtain ⟨rfl, -, h6⟩ := h2
        have hk := (readL_k _ _ (by omega) _ _ _ _ hx).1
        rw [if_neg (nI_ne_neg (by omega) (by decide)), rB_0]
        exact ⟨V2, rfl, ⟨fr.wd (by omega) (by omega), h6⟩, fr⟩
      | inr o =>
        rw [hx] at h2
        obtain ⟨rfl, -, h6⟩ := h2
        rw [if_pos rfl, rB_1]
        exact ⟨V2, rfl, ⟨fr.wd (by omega) (by omega), h6.1⟩, fr⟩
theorem c_wholly (hK : ClsK K P B) (hw : WfS S) (hl : pad.length ≤ 60) {ds : List Nat} (hd5 : ∀ d ∈ ds, d < 5) (hdl : ds.length ≤ 5) (h : CV V B pad S) (hd : RowV V (B + 84) 5 (ds.map nI) 0) : ∃ V2, f_X6_readsPadWholly K P B (B + 84) V = some (bI (fitB S pad ds), V2) ∧ CQ B V V2 ∧ Fr (B + 75) (B + 80) V V2 := by
  obtain ⟨V2, e2, q2, f2⟩ := c_wholly_loop hK hw hl hd5 hdl FU 0 V (FU_lt (by omega)) (by omega) h hd
  rw [nI_0, List.drop_zero] at e2
  exact ⟨V2, by rw [f_X6_readsPadWholly, e2]; rfl, q2, f2⟩
theorem c_asDigits_loop (hK : ClsK K P B) {ds : List Nat} (hd : RowV V (B + 84) 5 (ds.map nI) 0) (hdl : ds.length ≤ 5) :
    ∀ (n i a : Nat), ds.length - i < n → i ≤ ds.length → f_X6_asDigits_4 K P n (B + 84) (nI a) (nI i) V = some (nI ((ds.drop i).foldl (fun x d => x * 10 + d) a), V) := by
  intro n
  induction n with
  | zero => intro i a h; omega
  | succ n ih =>
    intro i a hn hi
    have hs := row_size hK.r7 hd
    rw [List.length_map] at hs
    rw [f_X6_asDigits_4, cV_k hK.r7.1 hs]
    by_cases hlt : i < ds.length
    · have hat := row_atn (by decide) hK.r7 hd (j := i) (by omega)
      rw [map_nI_getD hlt] at hat
      rw [if_pos ((nI_ltI (by omega) (by omega)).mpr hlt), cV_k hK.r7.1 hat, show (10 : Int32) = nI 10 from rfl, pk_mul, nI_add, nI_1, ih (i + 1) _ (by omega) (by omega), drop_nextN hlt]; rfl
    · rw [if_neg (fun z => hlt ((nI_ltI (by omega) (by omega)).mp z)), List.drop_eq_nil_of_le (by omega)]; rfl
theorem c_asDigits (hK : ClsK K P B) {ds : List Nat} (hd : RowV V (B + 84) 5 (ds.map nI) 0) (hdl : ds.length ≤ 5) : f_X6_asDigits K P (B + 84) V = some (nI (asN ds), V) := by
  have := c_asDigits_loop hK hd hdl FU 0 1 (FU_lt (by omega)) (by omega)
  rw [nI_0, List.drop_zero] at this
  rw [f_X6_asDigits]; exact this
theorem c_rows_in (hK : ClsK K P B) (hw : WfS S) (hl : pad.length ≤ 60) {x : Int32} {n : Nat} (hn : n ≤ 3) (kk : Nat → Int32 → Int32 → Int32 → VT → Option (Int32 × VT)) :
    ∀ (q k c : Nat) (fu : Nat) (V : VT), q < fu → k + q = 5 ^ n → CV V B pad S → RowV V (B + 84) 5 ((dgL 5 n k).map nI) 0 →
      ∃ V2, CQ B V V2 ∧ f_X6_rows_35 K P kk fu B x (nI c) (nI n) (bI (decide (k < 5 ^ n))) (nI k) V = match rwI S pad x n q k c with
        | .inl k2 => some (nI (asN (dgL 5 n k2)), V2)
        | .inr c2 => kk B x (nI c2) (nI (n + 1)) V2 := by
  intro q
  induction q with
  | zero =>
    intro k c fu V hf hk h hd
    obtain ⟨fu, rfl⟩ : ∃ m, fu = m + 1 := ⟨fu - 1, by omega⟩
    refine ⟨V, CQ.rf h.pas, ?_⟩
    rw [f_X6_rows_35, decide_eq_false (by omega), show bI false = 0 from rfl, if_pos rfl, f_X6_rows_91, nI_1]; rfl
  | succ q ih =>
    intro k c fu V hf hk h hd
    obtain ⟨fu, rfl⟩ : ∃ m, fu = m + 1 := ⟨fu - 1, by omega⟩
    have hp := pow_le (b := 5) (by decide) (show n ≤ 4 by omega)
    have hlen := dgL_len 5 n k
    obtain ⟨V1, e1, q1, f1⟩ := c_wholly hK hw hl (ds := dgL 5 n k) (fun d hd => dgL_lt (by decide) n k d hd) (by omega) h hd
    have hV1 := h.q q1
    have hd1 := hd.fr f1 (by omega)
    have next : ∀ c2 : Nat, ∃ V2, CQ B V V2 ∧ f_X6_rows_75 K P kk (f_X6_rows_35 K P kk fu) B x (nI c2) (nI n) (nI k) V1 = match rwI S pad x n q (k + 1) c2 with
        | .inl k2 => some (nI (asN (dgL 5 n k2)), V2)
        | .inr c3 => kk B x (nI c3) (nI (n + 1)) V2 := by
      intro c2
      obtain ⟨V3, e3, h3, f3⟩ := nextDigits (by decide) hK.r7 hd1 (nI 5)
      rw [List.length_map, hlen, nd_dg (by decide) (by decide) n k (by omega)] at e3 h3
      have q3 : CQ B V1 V3 := CQ.of hV1.pas f3 (by omega) (by omega)
      obtain ⟨V4, q4, r4⟩ := ih (k + 1) c2 fu V3 (by omega) (by omega) (hV1.q q3) h3
      refine ⟨V4, (q1.tr q3).tr q4, ?_⟩
      rw [f_X6_rows_75, gR_k hK.k hK.p7, show (5 : Int32) = nI 5 from rfl, cS_k e3, nI_1]; exact r4
    rw [f_X6_rows_35, decide_eq_true (by omega), show bI true = 1 from rfl, if_neg (by decide), if_pos (show nI k < 625 from (nI_ltI (b := 625) (by omega) (by decide)).mpr (by omega)), gR_k hK.k hK.p7, cV_k hK.k e1]
    unfold rwI
    cases hf : fitB S pad (dgL 5 n k) with
    | false =>
      rw [show bI false = 0 from rfl, if_pos rfl, if_neg (by decide)]
      exact next c
    | true =>
      rw [show bI true = 1 from rfl, if_neg (by decide), if_pos rfl]
      by_cases hc : nI c = x
      · rw [if_pos hc, if_pos hc, gR_k hK.k hK.p7, cS_k (c_asDigits hK hd1 (by omega))]
        exact ⟨V1, q1, rfl⟩
      · rw [if_neg hc, if_neg hc, nI_1]
        exact next (c + 1)
theorem c_rows_out (hK : ClsK K P B) (hw : WfS S) (hl : pad.length ≤ 60) {x : Int32} :
    ∀ (q n c : Nat) (fu : Nat) (V : VT), q < fu → n + q = 4 → CV V B pad S → ∃ V2, CQ B V V2 ∧ f_X6_rows_17 K P fu B x (nI c) (nI n) V = some (rwO S pad x q n c, V2) := by
  intro q
  induction q with
  | zero =>
    intro n c fu V hf hn h
    obtain ⟨fu, rfl⟩ : ∃ m, fu = m + 1 := ⟨fu - 1, by omega⟩
    refine ⟨V, CQ.rf h.pas, ?_⟩
    rw [f_X6_rows_17, show n = 4 by omega, if_pos (by decide)]
    show _ = some ((if x = -1 then nI c else -6), V)
    split <;> rfl
  | succ q ih =>
    intro n c fu V hf hn h
    obtain ⟨fu, rfl⟩ : ∃ m, fu = m + 1 := ⟨fu - 1, by omega⟩
    obtain ⟨V1, e1, h1, f1⟩ := row_fillZeros (by decide) hK.r7 (k := n) (by omega) V
    have q1 : CQ B V V1 := CQ.of h.pas f1 (by omega) (by omega)
    have hz : (List.replicate n (0 : Int32)) = (dgL 5 n 0).map nI := by
      rw [dgL_zero, List.map_replicate, nI_0]
    rw [hz] at h1
    have hp := pow_le (b := 5) (by decide) (show n ≤ 4 by omega)
    have hp0 : 0 < 5 ^ n := Nat.pow_pos (by decide)
    obtain ⟨V2, q2, r2⟩ := c_rows_in hK hw hl (x := x) (show n ≤ 3 by omega) (f_X6_rows_17 K P fu) (5 ^ n) 0 c FU V1 (FU_lt (by omega)) (by omega) (h.q q1) h1
    rw [decide_eq_true hp0, nI_0, show bI true = 1 from rfl] at r2
    rw [f_X6_rows_17, if_neg (show ¬ 3 < nI n from nI_notlt (a := 3) (by decide) (by omega) (by omega)), gR_k hK.k hK.p7, cV_k hK.r7.1 e1, r2]
    unfold rwO
    cases hs : rwI S pad x n (5 ^ n) 0 c with
    | inl k => exact ⟨V2, q1.tr q2, rfl⟩
    | inr c2 =>
      obtain ⟨V3, q3, r3⟩ := ih (n + 1) c2 fu V2 (by omega) (by omega) ((h.q q1).q q2)
      exact ⟨V3, (q1.tr q2).tr q3, r3⟩
/-! the reference -/
theorem m_rd (hK : MoK K P M) (hw : WfS S) (hS : MoS V M S) {d : Nat} (hd : d < 5) {t : List Int32} (hr : RowM V M t) (ht : t.length ≤ 400) (hs : SgL t) : ∃ V2 r, f_X7_readBy K P M (nI d) V = some (r, V2) ∧ ((r < 0 ∧ (takeOffL (S.1 d) t).1 = -6 ∧ RowM V2 M (takeOffL (S.1 d) t).2 ∧ SgL (takeOffL (S.1 d) t).2 ∧ (takeOffL (S.1 d) t).2.length ≤ 400) ∨ (¬ r < 0 ∧ ¬ (takeOffL (S.1 d) t).1 = -6)) ∧ MF M AW JP V V2 := by
  obtain ⟨V2, e2, h2, f2⟩ := m_readBy hK hd (hw.1 d hd) ht hs (hS.1 d hd) hr
  refine ⟨V2, _, e2, ?_, f2⟩
  rcases h2 with ⟨a, b, c, e⟩ | ⟨b, hb, e⟩
  · exact Or.inl ⟨by rw [a]; decide, a, b, c, by omega⟩
  · rw [e]; exact Or.inr ⟨nI_pos (by omega), nI_ne_neg (by omega) (by decide)⟩
theorem m_fit1 (hK : MoK K P M) (hw : WfS S) (hS : MoS V M S) {a : Nat} (ha : a < 5) {t : List Int32} (hr : RowM V M t) (ht : t.length ≤ 400) (hs : SgL t) : ∃ V2, f_X7_fitsRow_40 K P M (nI a) V = some (bI (frL S.1 [a] t), V2) ∧ MF M AW JP V V2 := by
  obtain ⟨V2, r, e2, h2, f2⟩ := m_rd hK hw hS ha hr ht hs
  refine ⟨V2, ?_, f2⟩
  rw [f_X7_fitsRow_40, f_X7_fitsRow_45, if_neg (by decide), cV_k hK.1 e2]
  unfold frL
  rcases h2 with ⟨h, h3, -⟩ | ⟨h, h3⟩
  · rw [if_pos h, if_pos h3, rB_1]; rfl
  · rw [if_neg h, if_neg h3, rB_0]; rfl
theorem m_fit2 (hK : MoK K P M) (hw : WfS S) (hS : MoS V M S) {a : Nat} (ha : a < 5) {ob : Option Nat} (hb : ∀ b, ob = some b → b < 5) {t : List Int32} (hr : RowM V M t) (ht : t.length ≤ 400) (hs : SgL t) : ∃ V2, f_X7_fitsRow_16 K P M (nI a) (match ob with | some b => nI b | none => -6) V = some (bI (frL S.1 (match ob with | some b => [b, a] | none => [a]) t), V2) ∧ MF M AW JP V V2 := by
  rw [f_X7_fitsRow_16, f_X7_fitsRow_21, if_neg (by decide)]
  cases ob with
  | none =>
    show ∃ V2, (if (-6 : Int32) < 0 then _ else _) = _ ∧ _
    rw [if_pos (by decide)]
    exact m_fit1 hK hw hS ha hr ht hs
  | some b =>
    have hb5 := hb b rfl
    obtain ⟨V2, r, e2, h2, f2⟩ := m_rd hK hw hS hb5 hr ht hs
    show ∃ V2, (if nI b < 0 then _ else _) = some (bI (frL S.1 [b, a] t), V2) ∧ _
    rw [if_neg (nI_pos (by omega)), cV_k hK.1 e2]
    have e : frL S.1 [b, a] t = if (takeOffL (S.1 b) t).1 = -6 then frL S.1 [a] (takeOffL (S.1 b) t).2 else false := rfl
    rw [e]
    rcases h2 with ⟨h, h3, h4, h5, h6⟩ | ⟨h, h3⟩
    · rw [if_pos h, if_pos h3]
      obtain ⟨V3, e3, f3⟩ := m_fit1 hK hw (hS.mf f2 (by decide) (by decide)) ha h4 h6 h5
      exact ⟨V3, e3, f2.tr f3⟩
    · rw [if_neg h, if_neg h3, f_X7_fitsRow_44, f_X7_fitsRow_45, if_pos rfl, rB_0]
      exact ⟨V2, rfl, f2⟩
theorem m_fits (hK : MoK K P M) (hw : WfS S) (hS : MoS V M S) (hp : PadM V M pad) (hl : pad.length ≤ 60) (hsp : SgL pad) {a : Nat} (ha : a < 5) {ob oc : Option Nat} (hb : ∀ b, ob = some b → b < 5) (hc : ∀ c, oc = some c → c < 5) : ∃ V2, f_X7_fitsRow K P M (nI a) (match ob with | some b => nI b | none => -6) (match oc with | some c => nI c | none => -6) V = some (bI (frL S.1 ((match oc with | some c => [c] | none => []) ++ (match ob with | some b => [b, a] | none => [a])) pad), V2) ∧ MF M AX JX V V2 := by
  obtain ⟨V1, e1, h1, f1⟩ := m_layPad hK hl hp
  have hS1 := hS.mf f1 (by decide) (by decide)
  have f1x : MF M AX JX V V1 := f1.wd (by decide) (by decide)
  rw [f_X7_fitsRow, cV_k hK.1 e1]
  cases oc with
  | none =>
    show ∃ V2, (if (-6 : Int32) < 0 then _ else _) = _ ∧ _
    rw [if_pos (by decide)]
    obtain ⟨V2, e2, f2⟩ := m_fit2 hK hw hS1 ha hb h1 (by omega) hsp
    exact ⟨V2, e2, f1x.tr (f2.wd (by decide) (by decide))⟩
  | some c =>
    have hc5 := hc c rfl
    obtain ⟨V2, r, e2, h2, f2⟩ := m_rd hK hw hS1 hc5 h1 (by omega) hsp
    have f2x : MF M AX JX V V2 := f1x.tr (f2.wd (by decide) (by decide))
    show ∃ V2, (if nI c < 0 then _ else _) = some (bI (frL S.1 (c :: _) pad), V2) ∧ _
    rw [if_neg (nI_pos (by omega)), cV_k hK.1 e2]
    have e : ∀ l, frL S.1 (c :: l) pad = if (takeOffL (S.1 c) pad).1 = -6 then frL S.1 l (takeOffL (S.1 c) pad).2 else false := fun _ => rfl
    rw [e]
    rcases h2 with ⟨h, h3, h4, h5, h6⟩ | ⟨h, h3⟩
    · rw [if_pos h, if_pos h3]
      obtain ⟨V3, e3, f3⟩ := m_fit2 hK hw (hS1.mf f2 (by decide) (by decide)) ha hb h4 h6 h5
      exact ⟨V3, e3, f2x.tr (f3.wd (by decide) (by decide))⟩
    · rw [if_neg h, if_neg h3, f_X7_fitsRow_21, if_pos rfl, f_X7_fitsRow_44, f_X7_fitsRow_45, if_pos rfl, rB_0]
      exact ⟨V2, rfl, f2x⟩
end ROW9
