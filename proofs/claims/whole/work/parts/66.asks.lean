/-! PURE PART, 17: dearest, read, spills, twice -/
def dearR (S : StT) : Nat → Nat → Int32 → Nat → Int32
  | 0, _, b, _ => b
  | k + 1, p, b, L => match lenO S (nI p) with
    | none => dearR S k (p + 1) b L
    | some n => if L < n then dearR S k (p + 1) (nI p) n else dearR S k (p + 1) b L
section DEAR
variable {K : KT} {P : PT} {B : Nat} {V : VT} {pad : List Int32} {S : StT}
theorem c_dear_loop (hK : ClsK K P B) (hw : WfS S) :
    ∀ (n p L : Nat) (b : Int32) (V : VT), 127 - p < n → 33 ≤ p → p ≤ 127 → L ≤ 400 → CV V B pad S → ∃ V2, f_X6_dearest_20 K P n B b (nI L) (nI p) V = some (dearR S (127 - p) p b L, V2) ∧ CQ B V V2 := by
  intro n
  induction n with
  | zero => intro p L b V h; omega
  | succ n ih =>
    intro p L b V hn hp1 hp2 hL h
    rw [f_X6_dearest_20]
    by_cases hp : p < 127
    · obtain ⟨k, hk⟩ : ∃ k, 127 - p = k + 1 := ⟨126 - p, by omega⟩
      obtain ⟨V1, y, e1, h1, q1⟩ := c_len hK h hw (sg_of_nI hp1 (show p ≤ 126 by omega))
      rw [hk, if_neg (show ¬ 126 < nI p from nI_notlt (a := 126) (by decide) (by omega) (by omega)), cV_k hK.k e1]
      have hk2 : k = 127 - (p + 1) := by omega
      unfold dearR
      cases hb : lenO S (nI p) with
      | none =>
        rw [hb] at h1
        have hy : y < 0 := h1
        have : ¬ nI L < y := by
          intro z
          have a1 := Int32.lt_iff_toInt_lt.mp z
          have a2 := Int32.lt_iff_toInt_lt.mp hy
          rw [nI_toInt (by omega)] at a1
          have c0 : (0 : Int32).toInt = 0 := by decide
          omega
        rw [if_neg this, f_X6_dearest_44, nI_1, hk2]
        obtain ⟨V2, e2, q2⟩ := ih (p + 1) L b V1 (by omega) (by omega) (by omega) hL (h.q q1)
        exact ⟨V2, e2, q1.tr q2⟩
      | some m =>
        rw [hb] at h1
        obtain ⟨rfl, m1, m4⟩ := h1
        by_cases hlt : L < m
        · rw [if_pos ((nI_ltI (by omega) (by omega)).mpr hlt), f_X6_dearest_44, nI_1, hk2]
          obtain ⟨V2, e2, q2⟩ := ih (p + 1) m (nI p) V1 (by omega) (by omega) (by omega) m4 (h.q q1)
          refine ⟨V2, ?_, q1.tr q2⟩
          rw [e2]
          show _ = some ((if L < m then _ else _), V2)
          rw [if_pos hlt]
        · rw [if_neg (fun z => hlt ((nI_ltI (by omega) (by omega)).mp z)), f_X6_dearest_44, nI_1, hk2]
          obtain ⟨V2, e2, q2⟩ := ih (p + 1) L b V1 (by omega) (by omega) (by omega) hL (h.q q1)
          refine ⟨V2, ?_, q1.tr q2⟩
          rw [e2]
          show _ = some ((if L < m then _ else _), V2)
          rw [if_neg hlt]
    · have hp7 : p = 127 := by omega
      subst hp7
      rw [if_pos (by decide)]
      exact ⟨V, rfl, CQ.rf h.pas⟩
theorem m_dear_loop {M : Nat} (hK : MoK K P M) (hw : WfS S) {a : Nat} (ha : lenO S 120 = some a) (ha1 : 1 ≤ a) (ha4 : a ≤ 400) :
    ∀ (n p L : Nat) (b b2 O : Int32) (V : VT), 127 - p < n → 33 ≤ p → p ≤ 127 → MoS V M S → ((b2 = -6 ∧ (L + 1 < a ∨ L = 0) ∧ p ≤ 120) ∨ (b2 = b ∧ ¬ b < 0 ∧ O = nI L - nI a + 1 ∧ a ≤ L + 1 ∧ L ≤ 400)) → ∃ V2, f_X7_dearest_20 K P n M b2 O (nI p) V = some (dearR S (127 - p) p b L, V2) ∧ MF M AX JX V V2 := by
  intro n
  induction n with
  | zero => intro p L b b2 O V h; omega
  | succ n ih =>
    intro p L b b2 O V hn hp1 hp2 h hR
    rw [f_X7_dearest_20]
    by_cases hp : p < 127
    · obtain ⟨k, hk⟩ : ∃ k, 127 - p = k + 1 := ⟨126 - p, by omega⟩
      obtain ⟨V1, e1, f1⟩ := m_growsOf hK h hw (sg_of_nI hp1 (show p ≤ 126 by omega))
      obtain ⟨V0, y0, e0, h0, -⟩ := m_len hK h hw (sg_of_nI hp1 (show p ≤ 126 by omega))
      have hS1 := h.mf f1 (by decide) (by decide)
      rw [hk, if_pos (show nI p < 127 from (nI_ltI (b := 127) (by omega) (by decide)).mpr hp), cV_k hK.1 e1]
      have hk2 : k = 127 - (p + 1) := by omega
      unfold dearR grO
      rw [ha]
      cases hb : lenO S (nI p) with
      | none =>
        have hne : p ≠ 120 := by
          intro z
          rw [z, show nI 120 = (120 : Int32) from rfl, ha] at hb
          cases hb
        obtain ⟨V2, e2, f2⟩ := ih (p + 1) L b b2 O V1 (by omega) (by omega) (by omega) hS1 (by
          rcases hR with ⟨r1, r2, r3⟩ | r
          · exact Or.inl ⟨r1, r2, by omega⟩
          · exact Or.inr r)
        refine ⟨V2, ?_, f1.tr f2⟩
        show (if (-6 : Int32) < 0 then _ else _) = _
        rw [if_pos (by decide), f_X7_dearest_53, nI_1, hk2]; exact e2
      | some m =>
        rw [hb] at h0
        obtain ⟨-, m1, m4⟩ := h0
        show ∃ V2, (if nI m - nI a + 1 < 0 then _ else _) = some ((if L < m then _ else _), V2) ∧ _
        by_cases hneg : m + 1 < a
        · have hne : p ≠ 120 := by
            intro z
            rw [z, show nI 120 = (120 : Int32) from rfl, ha] at hb
            cases hb
            omega
          rw [if_pos ((gr_neg ha4 m4).mpr hneg), f_X7_dearest_53, nI_1, hk2]
          rcases hR with ⟨r1, r2, r3⟩ | r
          · by_cases hlt : L < m
            · rw [if_pos hlt]
              obtain ⟨V2, e2, f2⟩ := ih (p + 1) m (nI p) b2 O V1 (by omega) (by omega) (by omega) hS1 (Or.inl ⟨r1, Or.inl hneg, by omega⟩)
              exact ⟨V2, e2, f1.tr f2⟩
            · rw [if_neg hlt]
              obtain ⟨V2, e2, f2⟩ := ih (p + 1) L b b2 O V1 (by omega) (by omega) (by omega) hS1 (Or.inl ⟨r1, r2, by omega⟩)
              exact ⟨V2, e2, f1.tr f2⟩
          · obtain ⟨r1, r2, r3, r4, r5⟩ := r
            rw [if_neg (by omega)]
            obtain ⟨V2, e2, f2⟩ := ih (p + 1) L b b2 O V1 (by omega) (by omega) (by omega) hS1 (Or.inr ⟨r1, r2, r3, r4, r5⟩)
            exact ⟨V2, e2, f1.tr f2⟩
        · rw [if_neg (fun z => hneg ((gr_neg ha4 m4).mp z))]
          have take : ∃ V2, f_X7_dearest_48 K P (f_X7_dearest_20 K P n) M (nI p) (nI m - nI a + 1) V1 = some (dearR S k (p + 1) (nI p) m, V2) ∧ MF M AX JX V V2 := by
            rw [f_X7_dearest_48, f_X7_dearest_53, nI_1, hk2]
            obtain ⟨V2, e2, f2⟩ := ih (p + 1) m (nI p) (nI p) (nI m - nI a + 1) V1 (by omega) (by omega) (by omega) hS1 (Or.inr ⟨rfl, nI_pos (by omega), rfl, by omega, m4⟩)
            exact ⟨V2, e2, f1.tr f2⟩
          rcases hR with ⟨rfl, r2, r3⟩ | ⟨rfl, r2, rfl, r4, r5⟩
          · rw [if_pos (by decide), if_pos (show L < m by omega)]; exact take
          · rw [if_neg r2]
            by_cases hlt : L < m
            · rw [if_pos ((gr_lt ha4 r5 m4).mpr hlt), if_pos hlt]; exact take
            · rw [if_neg (fun z => hlt ((gr_lt ha4 r5 m4).mp z)), if_neg hlt, f_X7_dearest_53, nI_1, hk2]
              obtain ⟨V2, e2, f2⟩ := ih (p + 1) L b2 b2 _ V1 (by omega) (by omega) (by omega) hS1 (Or.inr ⟨rfl, r2, rfl, r4, r5⟩)
              exact ⟨V2, e2, f1.tr f2⟩
    · have hp7 : p = 127 := by omega
      subst hp7
      rw [if_neg (by decide)]
      rcases hR with ⟨-, -, r3⟩ | ⟨rfl, -⟩
      · omega
      · exact ⟨V, rfl, MF.rf⟩
theorem e_dearest (hK : ClsK K P B) : Eq2 B (fun V => f_X6_dearest K P B V) (fun V => f_X7_dearest K P (B + 88) V) := by
  intro V pad S h
  show ∃ r V1 V2, f_X6_dearest K P B V = _ ∧ f_X7_dearest K P (B + 88) V1 = _ ∧ _
  obtain ⟨V1, y, e1, h1, q1⟩ := c_len hK h.c h.wf (s := 120) (by decide)
  have hV1 := h.q q1
  cases ha : lenO S 120 with
  | none =>
    rw [ha] at h1
    have hy : y < 0 := h1
    obtain ⟨V2, z, e2, h2, f2⟩ := m_len hK.mo hV1.ms h.wf (s := 120) (by decide)
    rw [ha] at h2
    have hz : z = -6 := h2
    refine ⟨-6, V1, V2, ?_, ?_, h.ask q1 f2⟩
    · rw [f_X6_dearest, cV_k hK.k e1, if_pos hy]
    · rw [f_X7_dearest, cV_k hK.mo.1 e2, hz, if_pos (by decide)]
  | some a =>
    rw [ha] at h1
    obtain ⟨rfl, a1, a4⟩ := h1
    obtain ⟨V2, e2, q2⟩ := c_dear_loop hK h.wf FU 33 0 (-6) V1 (FU_lt (by omega)) (by omega) (by omega) (by omega) hV1.c
    rw [nI_0] at e2
    have hV2 := hV1.q q2
    obtain ⟨V3, z, e3, h3, f3⟩ := m_len hK.mo hV2.ms h.wf (s := 120) (by decide)
    rw [ha] at h3
    obtain ⟨rfl, -, -⟩ := h3
    obtain ⟨V4, e4, f4⟩ := m_dear_loop hK.mo h.wf ha a1 a4 FU 33 0 (-6) (-6) 0 V3 (FU_lt (by omega)) (by omega) (by omega) (hV2.ms.mf f3 (by decide) (by decide)) (Or.inl ⟨rfl, Or.inr rfl, by omega⟩)
    refine ⟨dearR S (127 - 33) 33 (-6) 0, V2, V4, ?_, ?_, h.ask (q1.tr q2) (f3.tr f4)⟩
    · rw [f_X6_dearest, cV_k hK.k e1, if_neg (nI_pos (by omega))]; exact e2
    · rw [f_X7_dearest, cV_k hK.mo.1 e3, if_neg (nI_pos (by omega))]; exact e4
theorem readL_k (ly : Nat → LayT) (c : List Nat) (hc : c.length ≤ 6) : ∀ (n : Nat) (t : List Int32) (k : Nat) (b : Int32), readL ly c n t = .inl (k, b) → k < n ∧ ¬ b = -6 := by
  intro n
  induction n with
  | zero => intro t k b z; unfold readL at z; cases z
  | succ n ih =>
    intro t k b z
    unfold readL at z
    split at z
    · have := ih _ _ _ z; exact ⟨by omega, this.2⟩
    · rename_i hb
      cases z; exact ⟨by omega, hb⟩
theorem e_read (hK : ClsK K P B) (x : Int32) : Eq2 B (fun V => f_X6_read K P B x V) (fun V => f_X7_read K P (B + 88) x V) := by
  intro V pad S h
  show ∃ r V1 V2, f_X6_read K P B x V = _ ∧ f_X7_read K P (B + 88) x V1 = _ ∧ _
  have hl := h.lp
  have hs := row_size hK.r0 h.c.pad
  have hc5 := h.wf.2.1
  by_cases h0 : pad.length = 0
  · refine ⟨-3, V, V, ?_, ?_, pad, S, h⟩
    · rw [f_X6_read, gR_k hK.k hK.p0, cV_k hK.r0.1 hs, h0, if_pos nI_0]
    · rw [f_X7_read, gI_k hK.mo.1, h.mp.1, h0, if_pos nI_0]
  · obtain ⟨V1, e1, h1, f1⟩ := pas_begin hK.q4 h.c.pas (by decide) hK.r0 h.c.pad (by omega)
    have q1 : CQ B V V1 := CQ.of h.c.pas f1 (by omega) (by omega)
    have hV1 := h.q q1
    obtain ⟨V2, res, e2, h2, f2⟩ := pas_readBack hK.q4 hK.s1 (by omega) (by decide) hK.chK (by omega) h.wf.2.1.2 hV1.c.std.1 hV1.c.std.2.1 h1
    have pf : PasF V2 (B + 75) := by
      cases hx : readL S.1 S.2.1 S.2.1.length pad with
      | inl kb =>
        rw [hx] at h2
        obtain ⟨k, b⟩ := kb
        exact h2.2.2
      | inr o =>
        rw [hx] at h2
        exact h2.2.2.1
    have q2 : CQ B V1 V2 := ⟨f2.wd (by omega) (by omega), pf⟩
    have hV2 := hV1.q q2
    obtain ⟨V3, e3, h3, f3⟩ := m_layPad hK.mo hl hV2.mp
    obtain ⟨V4, res2, e4, h4, f4⟩ := m_readBack hK.mo h.wf (hV2.ms.mf f3 (by decide) (by decide)) h3 (by omega) h.sp
    have cls : ∀ r : Option (Int32 × VT), (if x = -1 then some (res, V2) else if x = -2 then gR K P B 4 4 fun b24 => cV K b24 1 (f_X3_badSign K P b24 V2) fun x26 V25 => some (x26, V25) else if res = -6 then if x = -3 then gR K P B 4 4 fun b19 => cV K b19 1 (f_X3_here K P b19 V2) fun b21 V20 => cV K b21 2 (f_X4_size K P b21 V20) fun x23 V22 => some (x23, V22) else gR K P B 4 4 fun b14 => cV K b14 1 (f_X3_here K P b14 V2) fun b16 V15 => cV K b16 2 (f_X4_at K P b16 x V15) fun x18 V17 => some (x18, V17) else some (-6, V2)) = r → f_X6_read K P B x V = r := by
      intro r hr
      rw [f_X6_read, gR_k hK.k hK.p0, cV_k hK.r0.1 hs, if_neg (nI_ne0 (by omega) (by omega)), gR_k hK.k hK.p4, gR_k hK.k hK.p0, cV_k hK.q4.1 e1, gR_k hK.k hK.p4, gR_k hK.k hK.p1, gR_k hK.k hK.p1, gR_k hK.s1.1 hK.ch, cV_k hK.q4.1 e2]
      exact hr
    have ref : ∀ r : Option (Int32 × VT), (if x = -1 then f_X7_read_30 K P (B + 88) x res2 V4 else if x = -2 then f_X7_read_30 K P (B + 88) x res2 V4 else if res2 < 0 then if x = -3 then gI K V4 (B + 88) 5 11 fun x11 => some (x11, V4) else gI K V4 (B + 88) 5 11 fun x6 => cS (f_X7_in K P x 0 (x6 - 1) V4) fun x8 V7 => if x8 = 0 then some ((-6 : Int32), V7) else gR K P (B + 88) 5 12 fun b9 => aI K V7 0 b9 x fun x10 => some (x10, V7) else some (-6, V4)) = r → f_X7_read K P (B + 88) x V2 = r := by
      intro r hr
      rw [f_X7_read, gI_k hK.mo.1, hV2.mp.1, if_neg (nI_ne0 (by omega) (by omega)), cV_k hK.mo.1 e3, cV_k hK.mo.1 e4]
      exact hr
    have bs : f_X3_badSign K P (B + 75) V2 = some (V2 (B + 75) 4, V2) := by rw [f_X3_badSign, gI_k hK.q4.1]
    have fin : ∃ pad2 S2, Inv B V4 pad2 S2 := h.ask (q1.tr q2) ((f3.wd (by decide) (by decide)).tr (f4.wd (by decide) (by decide)))
    cases hx : readL S.1 S.2.1 S.2.1.length pad with
    | inl kb =>
      rw [hx] at h2 h4
      obtain ⟨k, b⟩ := kb
      obtain ⟨rfl, h5, -⟩ := h2
      obtain ⟨rfl, h6, c, hc, rfl⟩ := h4
      have hk := (readL_k _ _ (by omega) _ _ _ _ hx).1
      by_cases x1 : x = -1
      · refine ⟨nI k, V2, V4, cls _ ?_, ref _ ?_, fin⟩
        · rw [if_pos x1]
        · rw [if_pos x1, f_X7_read_30, if_neg (nI_pos (by omega)), if_pos x1, gI_k hK.mo.1, h6]
      · by_cases x2 : x = -2
        · refine ⟨nI c, V2, V4, cls _ ?_, ref _ ?_, fin⟩
          · rw [if_neg x1, if_pos x2, gR_k hK.k hK.p4, cV_k hK.q4.1 bs, h5]
          · rw [if_neg x1, if_pos x2, f_X7_read_30, if_neg (nI_pos (by omega)), if_neg x1]
        · refine ⟨-6, V2, V4, cls _ ?_, ref _ ?_, fin⟩
          · rw [if_neg x1, if_neg x2, if_neg (nI_ne_neg (by omega) (by decide))]
          · rw [if_neg x1, if_neg x2, if_neg (nI_pos (by omega))]
    | inr o =>
      rw [hx] at h2 h4
      obtain ⟨rfl, h5, hp⟩ := h2
      obtain ⟨rfl, hro, -, hol⟩ := h4
      by_cases x1 : x = -1
      · refine ⟨-6, V2, V4, cls _ ?_, ref _ ?_, fin⟩
        · rw [if_pos x1]
        · rw [if_pos x1, f_X7_read_30, if_pos (by decide)]
      · by_cases x2 : x = -2
        · refine ⟨-6, V2, V4, cls _ ?_, ref _ ?_, fin⟩
          · rw [if_neg x1, if_pos x2, gR_k hK.k hK.p4, cV_k hK.q4.1 bs, h5]
          · rw [if_neg x1, if_pos x2, f_X7_read_30, if_pos (by decide)]
        · by_cases x3 : x = -3
          · refine ⟨nI o.length, V2, V4, cls _ ?_, ref _ ?_, fin⟩
            · rw [if_neg x1, if_neg x2, if_pos rfl, if_pos x3, gR_k hK.k hK.p4, cV_k hK.q4.1 (pas_here hK.q4 V2), cV_k (herK hK.q4 V2).1 (row_size (herK hK.q4 V2) hp.2)]
            · rw [if_neg x1, if_neg x2, if_pos (by decide), if_pos x3, gI_k hK.mo.1, hro.1]
          · refine ⟨atI o x, V2, V4, cls _ ?_, ref _ ?_, fin⟩
            · rw [if_neg x1, if_neg x2, if_pos rfl, if_neg x3, gR_k hK.k hK.p4, cV_k hK.q4.1 (pas_here hK.q4 V2), cV_k (herK hK.q4 V2).1 (row_at (by decide) (herK hK.q4 V2) hp.2 x)]
            · rw [if_neg x1, if_neg x2, if_pos (by decide), if_neg x3]; exact m_at hK.mo hro hol x
theorem e_spills (hK : ClsK K P B) (x : Int32) : Eq2 B (fun V => f_X6_spills K P B x V) (fun V => f_X7_spills K P (B + 88) x V) := by
  intro V pad S h
  show ∃ r V1 V2, f_X6_spills K P B x V = _ ∧ f_X7_spills K P (B + 88) x V1 = _ ∧ _
  have hc5 := h.wf.2.1
  have h12 := h.wf.2.2.1
  have ip := c_isPlace hK h.c h.wf x
  cases hb : inB x 0 (nI S.2.1.length - 1) with
  | false =>
    refine ⟨-2, V, V, ?_, ?_, pad, S, h⟩
    · rw [f_X6_spills, cV_k hK.k ip, hb, show bI false = 0 from rfl, if_pos rfl]
    · rw [f_X7_spills, gI_k hK.mo.1, h.ms.2.1.1, cS_k (m_in _ _ _ _), hb, show bI false = 0 from rfl, if_pos rfl]
  | true =>
    obtain ⟨V2, e2, q2, -⟩ := c_outcome hK h.c h.wf (by decide) hK.txK h.c.std.2.2 (by omega) (by decide) hK.chK h.c.std.2.1 (by omega) hc5.2 x
    have hV2 := h.q q2
    obtain ⟨V3, e3, h3, g3, f3⟩ := m_keepText hK.mo (V := V2) hV2.ms h12.2
    have hS3 := hV2.ms.mf f3 (by decide) (by decide)
    obtain ⟨V4, res2, e4, h4, f4⟩ := m_goThrough hK.mo h.wf (Nat.le_refl _) x hS3 h3 (by omega) h.wf.2.2.2
    rw [List.take_length] at h4
    have f4x : MF (B + 88) AX JX V3 V4 := f4.wd (by decide) (by decide)
    have ref : ∀ r : Option (Int32 × VT), (if res2 < 0 then some (res2, V4) else cV K (B + 88) 5 (f_X7_howBack K P (B + 88) V4) fun x10 V9 => some (x10, V9)) = r → f_X7_spills K P (B + 88) x V2 = r := by
      intro r hr
      rw [f_X7_spills, gI_k hK.mo.1, hV2.ms.2.1.1, cS_k (m_in _ _ _ _), hb, show bI true = 1 from rfl, if_neg (by decide), cV_k hK.mo.1 e3, gI_k hK.mo.1, hS3.2.1.1, cV_k hK.mo.1 e4]
      exact hr
    have cls : f_X6_spills K P B x V = some (outL S S.2.1 S.2.2 x, V2) := by
      rw [f_X6_spills, cV_k hK.k ip, hb, show bI true = 1 from rfl, if_neg (by decide), gR_k hK.k hK.p1, gR_k hK.s1.1 hK.tx, gR_k hK.k hK.p1, gR_k hK.s1.1 hK.ch, cV_k hK.k e2]
    unfold outL at cls
    cases hx : thruL S.1 x S.2.1 0 S.2.2 with
    | inl ek =>
      rw [hx] at h4 cls
      obtain ⟨e, k⟩ := ek
      obtain ⟨rfl, -⟩ := h4
      exact ⟨_, V2, V4, cls, ref _ (by rw [if_pos (err_neg (thruL_err _ _ _ _ _ _ _ hx).1)]), h.ask q2 (f3.tr f4x)⟩
    | inr o =>
      rw [hx] at h4 cls
      obtain ⟨rfl, hro, hol, hso⟩ := h4
      obtain ⟨V5, e5, f5⟩ := m_howBack hK.mo h.wf (hS3.mf f4 (by decide) (by decide)) hro hol hso (g3.mf f4 (by decide) (by decide)) h12.2
      exact ⟨_, V2, V5, cls, ref _ (by rw [if_neg (by decide), cV_k hK.mo.1 e5]), h.ask q2 ((f3.tr f4x).tr f5)⟩
end DEAR
