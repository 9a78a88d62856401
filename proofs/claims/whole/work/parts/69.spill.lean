/-! PURE PART, 20: the reference looks for the shortest spill -/
theorem nI_div : ∀ a, a < 626 → ∀ b, b < 6 → 1 ≤ b → nI a / nI b = nI (a / b) := by decide +kernel
theorem nI_rem {a b : Nat} (ha : a < 626) (hb : b < 6) (h1 : 1 ≤ b) : nI a - nI (a / b) * nI b = nI (a % b) := by
  rw [pk_mul]
  have := nI_subk (a % b) (a / b * b)
  rw [show a % b + a / b * b = a by have := Nat.div_add_mod a b; rw [Nat.mul_comm] at this; omega] at this
  exact this
theorem dgL_at {b : Nat} : ∀ (n k i : Nat), i < n → (dgL b n k).getD i 0 = k / b ^ (n - 1 - i) % b
  | 0, k, i, h => by omega
  | n + 1, k, i, h => by
    unfold dgL
    have hl := dgL_len b n (k / b)
    by_cases hi : i < n
    · rw [List.getD_eq_getElem?_getD, List.getElem?_append_left (by omega), ← List.getD_eq_getElem?_getD, dgL_at n (k / b) i hi, Nat.div_div_eq_div_mul, show n + 1 - 1 - i = (n - 1 - i) + 1 by omega, Nat.pow_succ, Nat.mul_comm]
    · have : i = n := by omega
      subst this
      rw [List.getD_eq_getElem?_getD, List.getElem?_append_right (by omega), hl, Nat.sub_self, show i + 1 - 1 - i = 0 by omega, Nat.pow_zero, Nat.div_one]; rfl
theorem tx_at {pad : List Int32} {b n k i : Nat} (h : i < n) : (tx pad b n k).getD i (-6) = pad.getD (k / b ^ (n - 1 - i) % b) (-6) := by
  unfold tx
  have hl := dgL_len b n k
  rw [← dgL_at n k i h, List.getD_eq_getElem?_getD, List.getElem?_map, List.getElem?_eq_getElem (by omega)]
  have hg : (dgL b n k).getD i 0 = (dgL b n k)[i] := by rw [List.getD_eq_getElem?_getD, List.getElem?_eq_getElem (by omega)]; rfl
  rw [hg]; rfl
theorem arv_of {V : VT} {a : Nat} {T : List Int32} (h : ∀ i, i < T.length → V a i = T.getD i (-6)) : ArV V a T := by
  intro i x hi
  have hl := (List.getElem?_eq_some_iff.mp hi).1
  rw [h i hl, List.getD_eq_getElem?_getD, hi]; rfl
section SPM
variable {K : KT} {P : PT} {B : Nat} {V : VT} {pad : List Int32} {S : StT} {M : Nat}
theorem m_at16 (hK : MoK K P M) {T : List Int32} (hf : FirM V M T) (ht : T.length ≤ 12) {n : Nat} (hn : n = T.length) (y : Int32) : (cS (f_X7_in K P y 0 (nI n - 1) V) fun x9 V8 => if x9 = 0 then some ((-6 : Int32), V8) else gR K P M 5 15 fun b10 => aI K V8 0 b10 y fun x11 => some (x11, V8)) = some (atI T y, V) := by
  subst hn
  rw [cS_k (m_in _ _ _ _)]
  rcases in_place (n := T.length) (by omega) y with ⟨j, hj, rfl, hb⟩ | ⟨hb, hx⟩
  · rw [hb, show bI true = 1 from rfl, if_neg (by decide), gR_k hK.1 hK.p15, aI_n hK.k15 (by omega) (by decide), hf.2.get hj (-6), atI_n T (by omega)]
  · rw [hb, show bI false = 0 from rfl, if_pos rfl, atI_out hx]
/-- one text tried -/
theorem m_try (hK : MoK K P M) (hw : WfS S) (h1p : 1 ≤ pad.length) (h5p : pad.length ≤ 5) (hsp : SgL pad) {j n k : Nat} (hn : n ≤ 4) (hk : k < pad.length ^ n) (y : Int32) (k32 : Nat → Int32 → Int32 → Int32 → Int32 → VT → Option (Int32 × VT)) (k48 : Nat → Int32 → Int32 → Int32 → Int32 → Int32 → VT → Option (Int32 × VT)) (l3 : Int32) (kI : Int32) :
    ∀ (q : Nat) (fu : Nat) (V : VT), q < fu → q ≤ n → MoS V M S → PadM V M pad → (∀ i, q ≤ i → i < n → V (M + 11) i = (tx pad pad.length n k).getD i (-6) ∧ V (M + 9) i = (tx pad pad.length n k).getD i (-6)) →
      ∃ V2, MF M AX JX V V2 ∧ f_X7_spill_64 K P k32 k48 fu M (nI j) y l3 (nI n) kI (nI (k / pad.length ^ (n - q))) (nI q - 1) V = if fndB S j (tx pad pad.length n k) = true then some ((if y = -1 then nI n else atI (tx pad pad.length n k) y), V2) else k48 M (nI j) y l3 (nI n) (kI + 1) V2 := by
  intro q
  induction q with
  | zero =>
    intro fu V hf hq hS hp hc
    obtain ⟨fu, rfl⟩ : ∃ m, fu = m + 1 := ⟨fu - 1, by omega⟩
    have hlen := tx_len pad pad.length n k
    have f1 : MF M [] [11, 16] V (vset (vset V M 16 (nI n)) M 11 (nI n)) := (MF.fld (by decide)).tr (MF.fld (by decide))
    have hS1 := hS.mf f1 (by decide) (by decide)
    have hr : RowM (vset (vset V M 16 (nI n)) M 11 (nI n)) M (tx pad pad.length n k) := ⟨by rw [vset_at, hlen], arv_of (fun i hi => by rw [vset_ne (by omega), vset_ne (by omega)]; exact (hc i (by omega) (by omega)).2)⟩
    have hfi : FirM (vset (vset V M 16 (nI n)) M 11 (nI n)) M (tx pad pad.length n k) := ⟨by rw [vset_k (by decide), vset_at, hlen], arv_of (fun i hi => by rw [vset_ne (by omega), vset_ne (by omega)]; exact (hc i (by omega) (by omega)).1)⟩
    obtain ⟨V2, res, e2, h2, f2⟩ := m_goThrough hK hw (Nat.le_refl _) (nI j) hS1 hr (by omega) (tx_sg hsp h1p n k)
    rw [List.take_length] at h2
    have fx2 : MF M AX JX V V2 := (f1.wd (by decide) (by decide)).tr (f2.wd (by decide) (by decide))
    rw [f_X7_spill_64, if_pos (by decide), sI_k hK.1, sI_k hK.1, gI_k hK.1, hS1.2.1.1, cV_k hK.1 e2]
    unfold fndB outL
    cases hx : thruL S.1 (nI j) S.2.1 0 (tx pad pad.length n k) with
    | inl ek =>
      rw [hx] at h2
      obtain ⟨e, q⟩ := ek
      obtain ⟨rfl, -⟩ := h2
      have he := (thruL_err _ _ _ _ _ _ _ hx).1
      refine ⟨V2, fx2, ?_⟩
      have hn0 : ¬ (0 : Int32) < res := by rcases he with rfl | rfl <;> decide
      show _ = if decide (0 < res) = true then _ else _
      rw [if_neg (show ¬ res = 0 by rcases he with rfl | rfl <;> decide), decide_eq_false hn0, if_neg (by decide), f_X7_spill_182]
    | inr o =>
      rw [hx] at h2
      obtain ⟨rfl, hro, hol, hso⟩ := h2
      obtain ⟨V3, e3, f3⟩ := m_howBackW hK hw (hS1.mf f2 (by decide) (by decide)) hro hol hso (hfi.mf f2 (by decide) (by decide)) (by omega)
      have hf3 := (hfi.mf f2 (by decide) (by decide)).mf f3 (by decide) (by decide)
      refine ⟨V3, fx2.tr (f3.wd (by decide) (by decide)), ?_⟩
      show _ = if decide (0 < howL S.1 S.2.1 o (tx pad pad.length n k)) = true then _ else _
      rw [if_pos rfl, cV_k hK.1 e3]
      by_cases hh : 0 < howL S.1 S.2.1 o (tx pad pad.length n k)
      · rw [if_pos hh, decide_eq_true hh, if_pos rfl]
        by_cases hy : y = -1
        · rw [if_pos hy, if_pos hy]
        · rw [if_neg hy, if_neg hy]
          exact m_at16 hK hf3 (by omega) hlen.symm y
      · rw [if_neg hh, decide_eq_false hh, if_neg (by decide), f_X7_spill_182]
  | succ q ih =>
    intro fu V hf hq hS hp hc
    obtain ⟨fu, rfl⟩ : ∃ m, fu = m + 1 := ⟨fu - 1, by omega⟩
    have hpl := pow_le h5p hn
    have hle : k / pad.length ^ (n - (q + 1)) ≤ k := Nat.div_le_self _ _
    have hm : k / pad.length ^ (n - (q + 1)) % pad.length < pad.length := Nat.mod_lt _ h1p
    have hnz : ¬ nI pad.length = 0 := nI_ne0 (by omega) (by omega)
    have hv : pad.getD (k / pad.length ^ (n - (q + 1)) % pad.length) (-6) = (tx pad pad.length n k).getD q (-6) := by
      rw [tx_at (by omega), show n - 1 - q = n - (q + 1) by omega]
    rw [f_X7_spill_64, nI_sub1, if_neg (nI_pos (by omega)), gR_k hK.1 hK.p15, gR_k hK.1 hK.p1, gI_k hK.1, hp.1, dG_k hnz, nI_div _ (by omega) _ (by omega) h1p, nI_rem (by omega) (by omega) h1p, aI_n hK.k1 (by omega) (by decide), hp.2.get hm (-6), hv, sA_n hK.k15 (by omega) (by decide), gR_k hK.1 hK.p12, gR_k hK.1 hK.p15, aI_n hK.k15 (by omega) (by decide), vset_at, sA_n hK.k12 (by omega) (by decide)]
    have f1 : MF M [9, 11] [] V (vset (vset V (M + 11) q ((tx pad pad.length n k).getD q (-6))) (M + 9) q ((tx pad pad.length n k).getD q (-6))) := (MF.cel (k := 11) (by decide) (by decide)).tr (MF.cel (k := 9) (by decide) (by decide))
    have hp1 := hp.mf f1 (by decide) (by decide)
    rw [gI_k hK.1, hp1.1, dG_k hnz, nI_div _ (by omega) _ (by omega) h1p, nI_add_m1]
    have hdd : k / pad.length ^ (n - (q + 1)) / pad.length = k / pad.length ^ (n - q) := by
      rw [Nat.div_div_eq_div_mul, ← Nat.pow_succ, show (n - (q + 1)).succ = n - q by omega]
    rw [hdd]
    obtain ⟨V2, f2, e2⟩ := ih fu _ (by omega) (by omega) (hS.mf f1 (by decide) (by decide)) hp1 (by
      intro i hi hin
      by_cases hiq : i = q
      · subst hiq
        exact ⟨by rw [vset_ne (by omega), vset_at], vset_at⟩
      · have := hc i (by omega) hin
        exact ⟨by rw [vset_ne (by omega), vset_k hiq]; exact this.1, by rw [vset_k hiq, vset_ne (by omega)]; exact this.2⟩)
    exact ⟨V2, (f1.wd (by decide) (by decide)).tr f2, e2⟩
theorem m_sp_in (hK : MoK K P M) (hw : WfS S) (h1p : 1 ≤ pad.length) (h5p : pad.length ≤ 5) (hsp : SgL pad) {j n : Nat} (hn1 : 1 ≤ n) (hn : n ≤ 4) (y : Int32) (k32 : Nat → Int32 → Int32 → Int32 → Int32 → VT → Option (Int32 × VT)) :
    ∀ (q k : Nat) (fu : Nat) (V : VT), q < fu → k + q = pad.length ^ n → MoS V M S → PadM V M pad →
      ∃ V2, MF M AX JX V V2 ∧ f_X7_spill_48 K P k32 fu M (nI j) y (nI (pad.length ^ n)) (nI n) (nI k) V = match srI (fun k => fndB S j (tx pad pad.length n k)) q k with
        | some k2 => some ((if y = -1 then nI n else atI (tx pad pad.length n k2) y), V2)
        | none => k32 M (nI j) y (nI (pad.length ^ n)) (nI (n + 1)) V2 := by
  intro q
  induction q with
  | zero =>
    intro k fu V hf hk hS hp
    obtain ⟨fu, rfl⟩ : ∃ m, fu = m + 1 := ⟨fu - 1, by omega⟩
    have hpl := pow_le h5p hn
    refine ⟨V, MF.rf, ?_⟩
    rw [f_X7_spill_48, if_neg (nI_notlt (by omega) (by omega) (by omega)), nI_1]; rfl
  | succ q ih =>
    intro k fu V hf hk hS hp
    obtain ⟨fu, rfl⟩ : ∃ m, fu = m + 1 := ⟨fu - 1, by omega⟩
    have hpl := pow_le h5p hn
    obtain ⟨V2, f2, e2⟩ := m_try hK hw h1p h5p hsp (j := j) hn (show k < pad.length ^ n by omega) y k32 (f_X7_spill_48 K P k32 fu) (nI (pad.length ^ n)) (nI k) n FU V (FU_lt (by omega)) (Nat.le_refl _) hS hp (fun i h1 h2 => by omega)
    rw [Nat.sub_self, Nat.pow_zero, Nat.div_one] at e2
    rw [f_X7_spill_48, if_pos ((nI_ltI (by omega) (by omega)).mpr (by omega)), e2]
    unfold srI
    cases hfn : fndB S j (tx pad pad.length n k) with
    | true =>
      rw [if_pos rfl, if_pos rfl]
      exact ⟨V2, f2, rfl⟩
    | false =>
      rw [if_neg (by decide), if_neg (by decide), nI_1]
      obtain ⟨V3, f3, e3⟩ := ih (k + 1) fu V2 (by omega) (by omega) (hS.mf f2 (by decide) (by decide)) (hp.mf f2 (by decide) (by decide))
      exact ⟨V3, f2.tr f3, e3⟩
theorem m_find (hK : MoK K P M) (hw : WfS S) (h1p : 1 ≤ pad.length) (h5p : pad.length ≤ 5) (hsp : SgL pad) {j : Nat} (y : Int32) :
    ∀ (q n : Nat) (fu : Nat) (V : VT), q < fu → 1 ≤ n → n + q = 5 → MoS V M S → PadM V M pad → ∃ V2, MF M AX JX V V2 ∧ f_X7_spill_32 K P fu M (nI j) y (nI (pad.length ^ (n - 1))) (nI n) V = some ((match srO pad S j pad.length q n with | some T => if y = -1 then nI T.length else atI T y | none => -6), V2) := by
  intro q
  induction q with
  | zero =>
    intro n fu V hf h1 hn hS hp
    obtain ⟨fu, rfl⟩ : ∃ m, fu = m + 1 := ⟨fu - 1, by omega⟩
    refine ⟨V, MF.rf, ?_⟩
    rw [f_X7_spill_32, show n = 5 by omega, if_neg (by decide)]; rfl
  | succ q ih =>
    intro n fu V hf h1 hn hS hp
    obtain ⟨fu, rfl⟩ : ∃ m, fu = m + 1 := ⟨fu - 1, by omega⟩
    have hpl := pow_le h5p (show n ≤ 4 by omega)
    obtain ⟨V2, f2, e2⟩ := m_sp_in hK hw h1p h5p hsp (j := j) h1 (show n ≤ 4 by omega) y (f_X7_spill_32 K P fu) (pad.length ^ n) 0 FU V (FU_lt (by omega)) (by omega) hS hp
    rw [nI_0] at e2
    rw [f_X7_spill_32, if_pos (show nI n < 5 from (nI_ltI (b := 5) (by omega) (by decide)).mpr (by omega)), gI_k hK.1, hp.1, pk_mul, ← Nat.pow_succ, show (n - 1).succ = n by omega, e2]
    unfold srO
    cases hs : srI (fun k => fndB S j (tx pad pad.length n k)) (pad.length ^ n) 0 with
    | some k =>
      refine ⟨V2, f2, ?_⟩
      show some ((if y = -1 then nI n else atI (tx pad pad.length n k) y), V2) = some ((if y = -1 then nI (tx pad pad.length n k).length else atI (tx pad pad.length n k) y), V2)
      rw [tx_len]
    | none =>
      obtain ⟨V3, f3, e3⟩ := ih (n + 1) fu V2 (by omega) (by omega) (by omega) (hS.mf f2 (by decide) (by decide)) (hp.mf f2 (by decide) (by decide))
      exact ⟨V3, f2.tr f3, e3⟩
theorem e_spill (hK : ClsK K P B) (x y : Int32) : Eq2 B (fun V => f_X6_spill K P B x y V) (fun V => f_X7_spill K P (B + 88) x y V) := by
  intro V pad S h
  show ∃ r V1 V2, f_X6_spill K P B x y V = _ ∧ f_X7_spill K P (B + 88) x y V1 = _ ∧ _
  have hc5 := h.wf.2.1
  have ip := c_isPlace hK h.c h.wf x
  have ir := c_isRow hK h.c h.lp
  rcases in_place (n := S.2.1.length) (by omega) x with ⟨j, hj, rfl, hb⟩ | ⟨hb, -⟩
  · have mr := m_isRow hK.mo h.mp h.lp
    cases hr : rowB pad with
    | false =>
      refine ⟨-3, V, V, ?_, ?_, pad, S, h⟩
      · rw [f_X6_spill, cV_k hK.k ip, hb, show bI true = 1 from rfl, if_neg (by decide), cV_k hK.k ir, hr, show bI false = 0 from rfl, if_pos rfl]
      · rw [f_X7_spill, gI_k hK.mo.1, h.ms.2.1.1, cS_k (m_in _ _ _ _), hb, show bI true = 1 from rfl, if_neg (by decide), cV_k hK.mo.1 mr, hr, show bI false = 0 from rfl, if_pos rfl]
    | true =>
      have h15 : 1 ≤ pad.length ∧ pad.length ≤ 5 := by
        unfold rowB at hr
        by_cases z : 1 ≤ pad.length ∧ pad.length ≤ 5
        · exact z
        · rw [decide_eq_false z] at hr; cases hr
      obtain ⟨V1, q1, r1⟩ := c_find hK h.wf h15.1 h15.2 (j := j) 4 1 FU V (FU_lt (by omega)) (by omega) h.c
      have hV1 := h.q q1
      obtain ⟨V2, f2, e2⟩ := m_find hK.mo h.wf h15.1 h15.2 h.sp (j := j) y 4 1 FU V1 (FU_lt (by omega)) (by omega) (by omega) hV1.ms hV1.mp
      have mr1 := m_isRow hK.mo hV1.mp h.lp
      have e2' : f_X7_spill K P (B + 88) (nI j) y V1 = some ((match srO pad S j pad.length 4 1 with | some T => if y = -1 then nI T.length else atI T y | none => -6), V2) := by
        rw [f_X7_spill, gI_k hK.mo.1, hV1.ms.2.1.1, cS_k (m_in _ _ _ _), hb, show bI true = 1 from rfl, if_neg (by decide), cV_k hK.mo.1 mr1, hr, show bI true = 1 from rfl, if_neg (by decide)]
        exact e2
      refine ⟨_, V1, V2, ?_, e2', h.ask q1 f2⟩
      rw [f_X6_spill, cV_k hK.k ip, hb, show bI true = 1 from rfl, if_neg (by decide), cV_k hK.k ir, hr, show bI true = 1 from rfl, if_neg (by decide)]
      cases hs : srO pad S j pad.length 4 1 with
      | some T =>
        rw [hs] at r1
        have e1 : f_X6_findShortestSpill K P B (nI j) V = some (1, V1) := r1.1
        rw [cV_k hK.k e1, if_neg (by decide)]
        show _ = some ((if y = -1 then nI T.length else atI T y), V1)
        by_cases hy : y = -1
        · rw [if_pos hy, if_pos hy, gR_k hK.k hK.p5, cV_k hK.r5.1 (row_size hK.r5 r1.2)]
        · rw [if_neg hy, if_neg hy, gR_k hK.k hK.p5, cV_k hK.r5.1 (row_at (by decide) hK.r5 r1.2 y)]
      | none =>
        rw [hs] at r1
        have e1 : f_X6_findShortestSpill K P B (nI j) V = some (0, V1) := r1
        rw [cV_k hK.k e1, if_pos rfl]
  · refine ⟨-2, V, V, ?_, ?_, pad, S, h⟩
    · rw [f_X6_spill, cV_k hK.k ip, hb, show bI false = 0 from rfl, if_pos rfl]
    · rw [f_X7_spill, gI_k hK.mo.1, h.ms.2.1.1, cS_k (m_in _ _ _ _), hb, show bI false = 0 from rfl, if_pos rfl]
end SPM
