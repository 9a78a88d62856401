/-! PURE PART, 16: barred, grows, safe, dearest -/
def lenO (S : StT) (s : Int32) : Option Nat := match thruL S.1 (-6) S.2.1 0 [s] with
  | .inl _ => none
  | .inr o => some o.length
def LenP (x : Int32) : Option Nat → Prop
  | none => x < 0
  | some n => x = nI n ∧ 1 ≤ n ∧ n ≤ 400
def LenQ (x : Int32) : Option Nat → Prop
  | none => x = -6
  | some n => x = nI n ∧ 1 ≤ n ∧ n ≤ 400
def grO (S : StT) (s : Int32) : Int32 := match lenO S 120 with
  | none => -6
  | some a => match lenO S s with
    | none => -6
    | some b => nI b - nI a + 1
theorem gr_toInt {a b : Nat} (ha : a ≤ 400) (hb : b ≤ 400) : (nI b - nI a + 1).toInt = (b : Int) - a + 1 := by
  rw [Int32.toInt_add, Int32.toInt_sub, nI_toInt (by omega), nI_toInt (by omega), show (1 : Int32).toInt = 1 by decide]
  have e1 : ((b : Int) - a).bmod (2 ^ 32) = (b : Int) - a := by
    apply Int.bmod_eq_of_le <;> omega
  rw [e1]
  apply Int.bmod_eq_of_le <;> omega
theorem gr_one {a b : Nat} (ha : a ≤ 400) (hb : b ≤ 400) : nI b - nI a + 1 = 1 ↔ b = a := by
  have e := gr_toInt ha hb
  constructor
  · intro h
    rw [h, show (1 : Int32).toInt = 1 by decide] at e
    omega
  · intro h
    rw [h, Int32.sub_self]; rfl
theorem gr_neg {a b : Nat} (ha : a ≤ 400) (hb : b ≤ 400) : nI b - nI a + 1 < 0 ↔ b + 1 < a := by
  have e := gr_toInt ha hb
  constructor
  · intro h
    have := Int32.lt_iff_toInt_lt.mp h
    rw [e, show (0 : Int32).toInt = 0 by decide] at this
    omega
  · intro h
    refine Int32.lt_iff_toInt_lt.mpr ?_
    rw [e, show (0 : Int32).toInt = 0 by decide]
    omega
theorem gr_lt {a b c : Nat} (ha : a ≤ 400) (hb : b ≤ 400) (hc : c ≤ 400) : nI b - nI a + 1 < nI c - nI a + 1 ↔ b < c := by
  have e := gr_toInt ha hb
  have e2 := gr_toInt ha hc
  constructor
  · intro h
    have := Int32.lt_iff_toInt_lt.mp h
    rw [e, e2] at this
    omega
  · intro h
    refine Int32.lt_iff_toInt_lt.mpr ?_
    rw [e, e2]
    omega
section LEN
variable {K : KT} {P : PT} {B : Nat} {V : VT} {pad : List Int32} {S : StT}
theorem sg1 {s : Int32} (h : isSg s = true) : SgL [s] := fun x hx => by
  simp only [List.mem_cons, List.not_mem_nil, or_false] at hx
  rw [hx]; exact h
theorem c_len (hK : ClsK K P B) (h : CV V B pad S) (hw : WfS S) {s : Int32} (hs : isSg s = true) : ∃ V2 x, f_X6_lengthOfLone K P B s V = some (x, V2) ∧ LenP x (lenO S s) ∧ CQ B V V2 := by
  obtain ⟨V1, e1, h1, f1⟩ := row_clear hK.r5 V
  obtain ⟨V2, e2, h2, f2⟩ := row_add (by decide) hK.r5 h1 (by decide) s
  have q2 : CQ B V V2 := CQ.of h.pas (f1.tr f2) (by omega) (by omega)
  have hV2 := h.q q2
  obtain ⟨V3, res, e3, h3, q3, f3⟩ := c_thru hK hV2 (by decide) hK.r5 h2 (by omega) (by decide) hK.chK hV2.std.2.1 (by omega) hw.2.1.2 (-6)
  refine ⟨V3, res, ?_, ?_, q2.tr q3⟩
  · rw [f_X6_lengthOfLone, gR_k hK.k hK.p5, cV_k hK.r5.1 e1, gR_k hK.k hK.p5, cV_k hK.r5.1 e2, gR_k hK.k hK.p4, gR_k hK.k hK.p1, gR_k hK.k hK.p1, gR_k hK.s1.1 hK.ch, gR_k hK.k hK.p5, cV_k hK.q4.1 e3]
  · rw [List.nil_append] at h3
    unfold lenO
    cases hx : thruL S.1 (-6) S.2.1 0 [s] with
    | inl ek =>
      rw [hx] at h3
      obtain ⟨e, k⟩ := ek
      obtain ⟨rfl, -, -⟩ := h3
      exact err_neg (thruL_err _ _ _ _ _ _ _ hx).1
    | inr o =>
      rw [hx] at h3
      have := thruL_ok S.1 (-6) hw.1 S.2.1 0 [s] o hw.2.1.2 (by simp) (sg1 hs) hx
      exact ⟨h3.1, this.2.2, this.1⟩
theorem m_len {M : Nat} (hK : MoK K P M) (hS : MoS V M S) (hw : WfS S) {s : Int32} (hs : isSg s = true) : ∃ V2 x, f_X7_lengthOf K P M s V = some (x, V2) ∧ LenQ x (lenO S s) ∧ MF M AX JX V V2 := by
  have f1 : MF M [] [11] V (vset V M 11 1) := MF.fld (by decide)
  have f2 : MF M [9] [11] V (vset (vset V M 11 1) (M + 9) 0 s) := (f1.wd (by decide) (by decide)).tr (MF.cel (by decide) (by decide))
  have hr : RowM (vset (vset V M 11 1) (M + 9) 0 s) M [s] := ⟨by rw [vset_ne (by omega), vset_at]; rfl, ArV.nil.push s⟩
  have hS2 := hS.mf f2 (by decide) (by decide)
  obtain ⟨V4, res, e4, h4, f4⟩ := m_goThrough hK hw (Nat.le_refl _) (-6) hS2 hr (by simp) (sg1 hs)
  rw [List.take_length] at h4
  have fx : MF M AX JX V V4 := (f2.wd (by decide) (by decide)).tr (f4.wd (by decide) (by decide))
  have a0 : ∀ F : VT → Option (Int32 × VT), sA K (vset V M 11 1) (M + 9) 0 s F = F (vset (vset V M 11 1) (M + 9) 0 s) := by
    intro F
    have := sA_n (F := F) (V := vset V M 11 1) (x := s) (j := 0) hK.k12 (by decide) (by decide)
    rw [nI_0] at this
    exact this
  rw [f_X7_lengthOf, sI_k hK.1, gR_k hK.1 hK.p12, a0, gI_k hK.1, hS2.2.1.1, cV_k hK.1 e4]
  unfold lenO
  cases hx : thruL S.1 (-6) S.2.1 0 [s] with
  | inl ek =>
    rw [hx] at h4
    obtain ⟨e, k⟩ := ek
    obtain ⟨rfl, -⟩ := h4
    exact ⟨V4, -6, by rw [if_pos (err_neg (thruL_err _ _ _ _ _ _ _ hx).1)], rfl, fx⟩
  | inr o =>
    rw [hx] at h4
    obtain ⟨rfl, hro, hol, -⟩ := h4
    have := thruL_ok S.1 (-6) hw.1 S.2.1 0 [s] o hw.2.1.2 (by simp) (sg1 hs) hx
    exact ⟨V4, nI o.length, by rw [if_neg (by decide), gI_k hK.1, hro.1], ⟨rfl, this.2.2, this.1⟩, fx⟩
theorem m_growsOf {M : Nat} (hK : MoK K P M) (hS : MoS V M S) (hw : WfS S) {s : Int32} (hs : isSg s = true) : ∃ V2, f_X7_growsOf K P M s V = some (grO S s, V2) ∧ MF M AX JX V V2 := by
  obtain ⟨V1, x, e1, h1, f1⟩ := m_len hK hS hw (s := 120) (by decide)
  obtain ⟨V2, y, e2, h2, f2⟩ := m_len hK (hS.mf f1 (by decide) (by decide)) hw hs
  refine ⟨V2, ?_, f1.tr f2⟩
  rw [f_X7_growsOf, cV_k hK.1 e1, cV_k hK.1 e2]
  unfold grO
  cases ha : lenO S 120 with
  | none =>
    rw [ha] at h1
    have : x = -6 := h1
    rw [this, if_pos (by decide)]; rfl
  | some a =>
    rw [ha] at h1
    obtain ⟨rfl, -, a4⟩ := h1
    rw [if_neg (nI_pos (by omega))]
    cases hb : lenO S s with
    | none =>
      rw [hb] at h2
      have : y = -6 := h2
      rw [this, if_pos (by decide)]; rfl
    | some b =>
      rw [hb] at h2
      obtain ⟨rfl, -, b4⟩ := h2
      rw [if_neg (nI_pos (by omega))]
end LEN
section ASK2
variable {K : KT} {P : PT} {B : Nat} {V : VT} {pad : List Int32} {S : StT}
theorem e_grows (hK : ClsK K P B) (s : Int32) : Eq2 B (fun V => f_X6_grows K P B s V) (fun V => f_X7_grows K P (B + 88) s V) := by
  intro V pad S h
  show ∃ r V1 V2, f_X6_grows K P B s V = _ ∧ f_X7_grows K P (B + 88) s V1 = _ ∧ _
  have ec := q_isSg (K := K) (P := P) s V
  cases hb : isSg s with
  | false =>
    refine ⟨-2, V, V, ?_, ?_, pad, S, h⟩
    · rw [f_X6_grows, cS_k ec, hb, show bI false = 0 from rfl, if_pos rfl]
    · rw [f_X7_grows, cS_k (m_in _ _ _ _), show inB s 33 126 = isSg s from rfl, hb, show bI false = 0 from rfl, if_pos rfl]
  | true =>
    obtain ⟨V1, x, e1, h1, q1⟩ := c_len hK h.c h.wf (s := 120) (by decide)
    obtain ⟨V2, y, e2, h2, q2⟩ := c_len hK (h.q q1).c h.wf hb
    have hV2 := (h.q q1).q q2
    obtain ⟨V3, e3, f3⟩ := m_growsOf hK.mo hV2.ms h.wf hb
    refine ⟨grO S s, V2, V3, ?_, ?_, h.ask (q1.tr q2) f3⟩
    · rw [f_X6_grows, cS_k ec, hb, show bI true = 1 from rfl, if_neg (by decide), cV_k hK.k e1, cV_k hK.k e2]
      unfold grO
      cases ha : lenO S 120 with
      | none =>
        rw [ha] at h1
        have : x < 0 := h1
        rw [if_pos this]; rfl
      | some a =>
        rw [ha] at h1
        obtain ⟨rfl, -, a4⟩ := h1
        rw [if_neg (nI_pos (by omega))]
        cases hb : lenO S s with
        | none =>
          rw [hb] at h2
          have : y < 0 := h2
          rw [if_pos this]; rfl
        | some b =>
          rw [hb] at h2
          obtain ⟨rfl, -, b4⟩ := h2
          rw [if_neg (nI_pos (by omega))]
    · rw [f_X7_grows, cS_k (m_in _ _ _ _), show inB s 33 126 = isSg s from rfl, hb, show bI true = 1 from rfl, if_neg (by decide), cV_k hK.mo.1 e3]
theorem e_barred (hK : ClsK K P B) : Eq2 B (fun V => f_X6_barred K P B V) (fun V => f_X7_barred K P (B + 88) V) := by
  intro V pad S h
  show ∃ r V1 V2, f_X6_barred K P B V = _ ∧ f_X7_barred K P (B + 88) V1 = _ ∧ _
  have h12 := h.wf.2.2.1
  obtain ⟨V2, res, e2, h2, q2, f2⟩ := c_thru hK h.c (by decide) hK.txK h.c.std.2.2 (by omega) (by decide) hK.chK h.c.std.2.1 (by omega) h.wf.2.1.2 (-6)
  have hV2 := h.q q2
  obtain ⟨V3, e3, h3, f3⟩ := m_layText hK.mo (V := V2) hV2.ms h12.2
  have hS3 := hV2.ms.mf f3 (by decide) (by decide)
  obtain ⟨V4, res2, e4, h4, f4⟩ := m_goThrough hK.mo h.wf (Nat.le_refl _) (-6) hS3 h3 (by omega) h.wf.2.2.2
  rw [List.take_length] at h4
  have cls : ∀ r : Option (Int32 × VT), (if res = -7 then some ((-7 : Int32), V2) else gR K P B 4 4 fun b9 => cV K b9 1 (f_X3_barringPlace K P b9 V2) fun x11 V10 => some (x11, V10)) = r → f_X6_barred K P B V = r := by
    intro r hr
    rw [f_X6_barred, gR_k hK.k hK.p4, gR_k hK.k hK.p1, gR_k hK.k hK.p1, gR_k hK.s1.1 hK.ch, gR_k hK.k hK.p1, gR_k hK.s1.1 hK.tx, cV_k hK.q4.1 e2]
    exact hr
  have ref : ∀ r : Option (Int32 × VT), (if res2 = -5 then gI K V4 (B + 88) 5 14 fun x6 => some (x6, V4) else if res2 = -7 then some ((-7 : Int32), V4) else some ((-6 : Int32), V4)) = r → f_X7_barred K P (B + 88) V2 = r := by
    intro r hr
    rw [f_X7_barred, cV_k hK.mo.1 e3, gI_k hK.mo.1, hS3.2.1.1, cV_k hK.mo.1 e4]
    exact hr
  have bp : f_X3_barringPlace K P (B + 75) V2 = some (V2 (B + 75) 3, V2) := by rw [f_X3_barringPlace, gI_k hK.q4.1]
  have fin : ∃ pad2 S2, Inv B V4 pad2 S2 := h.ask q2 ((f3.wd (by decide) (by decide)).tr (f4.wd (by decide) (by decide)))
  cases hx : thruL S.1 (-6) S.2.1 0 S.2.2 with
  | inl ek =>
    rw [hx] at h2 h4
    obtain ⟨e, k⟩ := ek
    obtain ⟨rfl, h5, -⟩ := h2
    obtain ⟨rfl, h6⟩ := h4
    rcases (thruL_err _ _ _ _ _ _ _ hx).1 with rfl | rfl
    · refine ⟨nI k, V2, V4, cls _ ?_, ref _ ?_, fin⟩
      · rw [if_neg (by decide), gR_k hK.k hK.p4, cV_k hK.q4.1 bp, h5, if_pos rfl]
      · rw [if_pos rfl, gI_k hK.mo.1, h6]
    · refine ⟨-7, V2, V4, cls _ ?_, ref _ ?_, fin⟩
      · rw [if_pos rfl]
      · rw [if_neg (by decide), if_pos rfl]
  | inr o =>
    rw [hx] at h2 h4
    obtain ⟨rfl, h5, hp⟩ := h2
    obtain ⟨rfl, hro, hol, -⟩ := h4
    refine ⟨-6, V2, V4, cls _ ?_, ref _ ?_, fin⟩
    · rw [if_neg (nI_ne_neg (by omega) (by decide)), gR_k hK.k hK.p4, cV_k hK.q4.1 bp, h5]
    · rw [if_neg (by decide), if_neg (by decide)]
/-- the signs as cheap as a lone x -/
def safeR (ok : Nat → Bool) (x : Int32) : Nat → Nat → Nat → Int32
  | 0, _, c => if x = -1 then nI c else -6
  | k + 1, p, c => if ok p = true then (if nI c = x then nI p else safeR ok x k (p + 1) (c + 1)) else safeR ok x k (p + 1) c
def okS (S : StT) (p : Nat) : Bool := decide ((lenO S 120).isSome = true ∧ lenO S (nI p) = lenO S 120)
theorem safeR_none {ok : Nat → Bool} {x : Int32} (h : ∀ p, ok p = false) : ∀ (k p c : Nat), safeR ok x k p c = if x = -1 then nI c else -6
  | 0, p, c => rfl
  | k + 1, p, c => by unfold safeR; rw [h p, if_neg (by decide)]; exact safeR_none h k (p + 1) c
theorem c_safe_loop (hK : ClsK K P B) (hw : WfS S) (x : Int32) {a : Nat} (ha : lenO S 120 = some a) (ha4 : a ≤ 400) :
    ∀ (n p c : Nat) (V : VT), 127 - p < n → 33 ≤ p → p ≤ 127 → c ≤ p → CV V B pad S → ∃ V2, f_X6_safe_13 K P n B x (nI a) (nI c) (nI p) V = some (safeR (okS S) x (127 - p) p c, V2) ∧ CQ B V V2 := by
  intro n
  induction n with
  | zero => intro p c V h; omega
  | succ n ih =>
    intro p c V hn hp1 hp2 hc h
    rw [f_X6_safe_13, if_neg (nI_pos (by omega))]
    by_cases hp : p < 127
    · obtain ⟨k, hk⟩ : ∃ k, 127 - p = k + 1 := ⟨126 - p, by omega⟩
      obtain ⟨V1, y, e1, h1, q1⟩ := c_len hK h hw (sg_of_nI hp1 (by omega))
      rw [hk, if_neg (show ¬ 126 < nI p from nI_notlt (a := 126) (by decide) (by omega) (by omega)), cV_k hK.k e1]
      have hk2 : k = 127 - (p + 1) := by omega
      unfold safeR
      have hy : (y = nI a) ↔ okS S p = true := by
        unfold okS
        rw [ha]
        cases hb : lenO S (nI p) with
        | none =>
          rw [hb] at h1
          have : y < 0 := h1
          constructor
          · intro z; rw [z] at this; exact absurd this (nI_pos (by omega))
          · intro z; simp at z
        | some b =>
          rw [hb] at h1
          obtain ⟨rfl, -, b4⟩ := h1
          rw [nI_eq (by omega) (by omega)]
          simp
      by_cases hok : okS S p = true
      · rw [if_pos (hy.mpr hok), if_pos hok]
        by_cases hcx : nI c = x
        · rw [if_pos hcx, if_pos hcx]; exact ⟨V1, rfl, q1⟩
        · rw [if_neg hcx, if_neg hcx, f_X6_safe_45, nI_1, nI_1, hk2]
          obtain ⟨V2, e2, q2⟩ := ih (p + 1) (c + 1) V1 (by omega) (by omega) (by omega) (by omega) (h.q q1)
          exact ⟨V2, e2, q1.tr q2⟩
      · rw [if_neg (fun z => hok (hy.mp z)), if_neg hok, f_X6_safe_45, nI_1, hk2]
        obtain ⟨V2, e2, q2⟩ := ih (p + 1) c V1 (by omega) (by omega) (by omega) (by omega) (h.q q1)
        exact ⟨V2, e2, q1.tr q2⟩
    · have hp7 : p = 127 := by omega
      subst hp7
      rw [if_pos (by decide), f_X6_safe_51]
      refine ⟨V, ?_, CQ.rf h.pas⟩
      show _ = some ((if x = -1 then nI c else -6), V)
      split <;> rfl
theorem m_safe_loop {M : Nat} (hK : MoK K P M) (hw : WfS S) (x : Int32) :
    ∀ (n p c : Nat) (V : VT), 127 - p < n → 33 ≤ p → p ≤ 127 → c ≤ p → MoS V M S → ∃ V2, f_X7_safe_5 K P n M x (nI c) (nI p) V = some (safeR (okS S) x (127 - p) p c, V2) ∧ MF M AX JX V V2 := by
  intro n
  induction n with
  | zero => intro p c V h; omega
  | succ n ih =>
    intro p c V hn hp1 hp2 hc h
    rw [f_X7_safe_5]
    by_cases hp : p < 127
    · obtain ⟨k, hk⟩ : ∃ k, 127 - p = k + 1 := ⟨126 - p, by omega⟩
      obtain ⟨V0, y0, e0, h0, -⟩ := m_len hK h hw (s := 120) (by decide)
      obtain ⟨V0', y1, e0', h0', -⟩ := m_len hK h hw (sg_of_nI hp1 (show p ≤ 126 by omega))
      obtain ⟨V1, e1, f1⟩ := m_growsOf hK h hw (sg_of_nI hp1 (show p ≤ 126 by omega))
      rw [hk, if_pos (show nI p < 127 from (nI_ltI (b := 127) (by omega) (by decide)).mpr hp), cV_k hK.1 e1]
      have hk2 : k = 127 - (p + 1) := by omega
      unfold safeR
      have hy : (grO S (nI p) = 1) ↔ okS S p = true := by
        unfold okS grO
        cases ha : lenO S 120 with
        | none => simp
        | some a =>
          rw [ha] at h0
          cases hb : lenO S (nI p) with
          | none => simp
          | some b =>
            rw [hb] at h0'
            show (nI b - nI a + 1 = 1) ↔ _
            rw [gr_one h0.2.2 h0'.2.2]
            simp
      by_cases hok : okS S p = true
      · rw [if_pos (hy.mpr hok), if_pos hok]
        by_cases hcx : nI c = x
        · rw [if_pos hcx, if_pos hcx]; exact ⟨V1, rfl, f1⟩
        · rw [if_neg hcx, if_neg hcx, f_X7_safe_30, nI_1, nI_1, hk2]
          obtain ⟨V2, e2, f2⟩ := ih (p + 1) (c + 1) V1 (by omega) (by omega) (by omega) (by omega) (h.mf f1 (by decide) (by decide))
          exact ⟨V2, e2, f1.tr f2⟩
      · rw [if_neg (fun z => hok (hy.mp z)), if_neg hok, f_X7_safe_30, nI_1, hk2]
        obtain ⟨V2, e2, f2⟩ := ih (p + 1) c V1 (by omega) (by omega) (by omega) (by omega) (h.mf f1 (by decide) (by decide))
        exact ⟨V2, e2, f1.tr f2⟩
    · have hp7 : p = 127 := by omega
      subst hp7
      rw [if_neg (by decide)]
      refine ⟨V, ?_, MF.rf⟩
      show _ = some ((if x = -1 then nI c else -6), V)
      split <;> rfl
theorem e_safe (hK : ClsK K P B) (x : Int32) : Eq2 B (fun V => f_X6_safe K P B x V) (fun V => f_X7_safe K P (B + 88) x V) := by
  intro V pad S h
  show ∃ r V1 V2, f_X6_safe K P B x V = _ ∧ f_X7_safe K P (B + 88) x V1 = _ ∧ _
  obtain ⟨V1, y, e1, h1, q1⟩ := c_len hK h.c h.wf (s := 120) (by decide)
  have hV1 := h.q q1
  have cl : ∃ V2, f_X6_safe K P B x V = some (safeR (okS S) x (127 - 33) 33 0, V2) ∧ CQ B V V2 := by
    rw [f_X6_safe, cV_k hK.k e1]
    cases ha : lenO S 120 with
    | none =>
      rw [ha] at h1
      have hy : y < 0 := h1
      have hfu : FU = (FU - 1) + 1 := by unfold FU; omega
      rw [safeR_none (fun p => by unfold okS; rw [ha]; simp), hfu, f_X6_safe_13, if_pos hy, f_X6_safe_51]
      refine ⟨V1, ?_, q1⟩
      rw [nI_0]
      split <;> rfl
    | some a =>
      rw [ha] at h1
      obtain ⟨rfl, -, a4⟩ := h1
      obtain ⟨V2, e2, q2⟩ := c_safe_loop hK h.wf x ha a4 FU 33 0 V1 (FU_lt (by omega)) (by omega) (by omega) (by omega) hV1.c
      rw [nI_0] at e2
      exact ⟨V2, e2, q1.tr q2⟩
  obtain ⟨V2, e2, q2⟩ := cl
  obtain ⟨V3, e3, f3⟩ := m_safe_loop hK.mo h.wf x FU 33 0 V2 (FU_lt (by omega)) (by omega) (by omega) (by omega) (h.q q2).ms
  rw [nI_0] at e3
  exact ⟨_, V2, V3, e2, e3, h.ask q2 f3⟩
end ASK2
