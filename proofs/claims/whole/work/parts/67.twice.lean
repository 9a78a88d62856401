/-! PURE PART, 18: a layer put twice; digits counted -/
def dbR (x : Nat) : List Nat → Nat → List Nat
  | [], _ => []
  | c :: cs, i => if i = x then c :: c :: dbR x cs (i + 1) else c :: dbR x cs (i + 1)
theorem dbR_len (x : Nat) : ∀ (c : List Nat) (i : Nat), (dbR x c i).length ≤ c.length + (if i ≤ x then 1 else 0)
  | [], i => by unfold dbR; simp
  | c :: cs, i => by
    have ih := dbR_len x cs (i + 1)
    unfold dbR
    by_cases h : i = x
    · rw [if_pos h, if_pos (by omega)]
      rw [if_neg (by omega)] at ih
      simp only [List.length_cons]; omega
    · rw [if_neg h]
      simp only [List.length_cons]
      by_cases h2 : i ≤ x
      · rw [if_pos h2]
        rw [if_pos (by omega)] at ih
        omega
      · rw [if_neg h2]
        rw [if_neg (by omega)] at ih
        omega
theorem dbR_mem (x : Nat) : ∀ (c : List Nat) (i : Nat), ∀ z ∈ dbR x c i, z ∈ c
  | [], i, z, h => by unfold dbR at h; exact h
  | c :: cs, i, z, h => by
    unfold dbR at h
    have ih := dbR_mem x cs (i + 1) z
    split at h
    · rcases List.mem_cons.mp h with h | h
      · rw [h]; exact List.mem_cons_self
      · rcases List.mem_cons.mp h with h | h
        · rw [h]; exact List.mem_cons_self
        · exact List.mem_cons_of_mem _ (ih h)
    · rcases List.mem_cons.mp h with h | h
      · rw [h]; exact List.mem_cons_self
      · exact List.mem_cons_of_mem _ (ih h)
def putsL (ly : Nat → LayT) : List Nat → List Int32 → Int32 ⊕ List Int32
  | [], t => .inr t
  | c :: cs, t => match putL (ly c) false t with
    | none => .inl (-5)
    | some o => if 400 < o.length then .inl (-7) else putsL ly cs o
theorem thru_puts (ly : Nat → LayT) : ∀ (c : List Nat) (k : Nat) (t : List Int32), k + c.length < 1000 → (match thruL ly (-6) c k t with | .inl (e, _) => Sum.inl e | .inr o => Sum.inr o) = putsL ly c t
  | [], k, t, _ => rfl
  | c :: cs, k, t, h => by
    have hk : decide (nI k = -6) = false := decide_eq_false (nI_ne_neg (by simp only [List.length_cons] at h; omega) (by decide))
    unfold thruL putsL
    rw [hk]
    cases putL (ly c) false t with
    | none => rfl
    | some o =>
      show (match (if 400 < o.length then _ else _ : (Int32 × Nat) ⊕ List Int32) with | .inl (e, _) => Sum.inl e | .inr o => Sum.inr o) = (if 400 < o.length then _ else _)
      by_cases ho : 400 < o.length
      · rw [if_pos ho, if_pos ho]
      · rw [if_neg ho, if_neg ho]
        exact thru_puts ly cs (k + 1) o (by simp only [List.length_cons] at h; omega)
theorem out_puts (S : StT) (c : List Nat) (t : List Int32) (hc : c.length < 900) : outL S c t (-6) = match putsL S.1 c t with | .inl e => e | .inr o => howL S.1 S.2.1 o t := by
  have := thru_puts S.1 c 0 t (by omega)
  unfold outL
  rw [← this]
  cases thruL S.1 (-6) c 0 t with
  | inl ek => rfl
  | inr o => rfl
section TW
variable {K : KT} {P : PT} {B : Nat} {V : VT} {pad : List Int32} {S : StT}
theorem c_twice_loop (hK : ClsK K P B) (hw : WfS S) {j : Nat} {D : List Nat} (hD : D.length ≤ 6) (hD5 : ∀ x ∈ D, x < 5) (hj : j < 100) :
    ∀ (n i : Nat) (V : VT) (acc : List Nat), S.2.1.length - i < n → i ≤ S.2.1.length → acc ++ dbR j (S.2.1.drop i) i = D → CV V B pad S → RowV V (B + 82) 6 (acc.map nI) 0 → ∃ V2, f_X6_twice_20 K P n B (nI j) (nI i) V = some (outL S D S.2.2 (-6), V2) ∧ CQ B V V2 := by
  intro n
  induction n with
  | zero => intro i V acc h; omega
  | succ n ih =>
    intro i V acc hn hi ha h hr
    have h5 := hw.2.1
    have hsc := row_size hK.chK h.std.2.1
    rw [List.length_map] at hsc
    rw [f_X6_twice_20, gR_k hK.k hK.p1, gR_k hK.s1.1 hK.ch, cV_k hK.chK.1 hsc]
    by_cases hlt : i < S.2.1.length
    · have hat := row_atn (by decide) hK.chK h.std.2.1 (j := i) (by omega)
      rw [map_nI_getD hlt] at hat
      rw [drop_nextN hlt] at ha
      unfold dbR at ha
      have hal : acc.length < 6 := by
        rw [← ha] at hD
        rw [List.length_append] at hD
        split at hD <;> simp only [List.length_cons] at hD <;> omega
      obtain ⟨V1, e1, h1, f1⟩ := row_add (by decide) hK.r6 hr (by rw [List.length_map]; exact hal) (nI (S.2.1.getD i 0))
      have hm1 : acc.map nI ++ [nI (S.2.1.getD i 0)] = (acc ++ [S.2.1.getD i 0]).map nI := by simp
      rw [hm1] at h1
      have q1 : CQ B V V1 := CQ.of h.pas f1 (by omega) (by omega)
      have hV1 := h.q q1
      rw [if_pos ((nI_ltI (by omega) (by omega)).mpr hlt), gR_k hK.k hK.p6, gR_k hK.k hK.p1, gR_k hK.s1.1 hK.ch, cV_k hK.chK.1 hat, cV_k hK.r6.1 e1]
      by_cases hij : i = j
      · rw [if_pos hij] at ha
        have hal2 : acc.length + 1 < 6 := by
          rw [← ha] at hD
          rw [List.length_append] at hD
          simp only [List.length_cons] at hD; omega
        have hat1 := row_atn (by decide) hK.chK hV1.std.2.1 (j := i) (by omega)
        rw [map_nI_getD hlt] at hat1
        obtain ⟨V2, e2, h2, f2⟩ := row_add (by decide) hK.r6 h1 (by rw [List.length_map, List.length_append]; simp; omega) (nI (S.2.1.getD i 0))
        have hm2 : (acc ++ [S.2.1.getD i 0]).map nI ++ [nI (S.2.1.getD i 0)] = (acc ++ [S.2.1.getD i 0, S.2.1.getD i 0]).map nI := by simp
        rw [hm2] at h2
        have q2 : CQ B V1 V2 := CQ.of hV1.pas f2 (by omega) (by omega)
        obtain ⟨V3, e3, q3⟩ := ih (i + 1) V2 _ (by omega) (by omega) (by rw [← ha, List.append_assoc]; rfl) (hV1.q q2) h2
        refine ⟨V3, ?_, (q1.tr q2).tr q3⟩
        rw [if_pos (by rw [hij]), gR_k hK.k hK.p6, gR_k hK.k hK.p1, gR_k hK.s1.1 hK.ch, cV_k hK.chK.1 hat1, cV_k hK.r6.1 e2, f_X6_twice_75, nI_1, e3]
      · rw [if_neg hij] at ha
        obtain ⟨V3, e3, q3⟩ := ih (i + 1) V1 _ (by omega) (by omega) (by rw [← ha, List.append_assoc]; rfl) hV1 h1
        refine ⟨V3, ?_, q1.tr q3⟩
        rw [if_neg (fun z => hij ((nI_eq (by omega) (by omega)).mp z)), f_X6_twice_75, nI_1, e3]
    · rw [if_neg (fun z => hlt ((nI_ltI (by omega) (by omega)).mp z)), gR_k hK.k hK.p1, gR_k hK.s1.1 hK.tx, gR_k hK.k hK.p6]
      rw [List.drop_eq_nil_of_le (by omega)] at ha
      unfold dbR at ha
      rw [List.append_nil] at ha
      subst ha
      obtain ⟨V2, e2, q2, -⟩ := c_outcome hK h hw (by decide) hK.txK h.std.2.2 (by omega) (by decide) hK.r6 hr (by omega) hD5 (-6)
      exact ⟨V2, by rw [cV_k hK.k e2], q2⟩
theorem m_twice_loop {M : Nat} (hK : MoK K P M) (hw : WfS S) {j : Nat} (hj : j < 100) :
    ∀ (n i : Nat) (V : VT) (t : List Int32), S.2.1.length - i < n → i ≤ S.2.1.length → MoS V M S → RowM V M t → t.length ≤ 400 → SgL t → FirM V M S.2.2 → ∃ V2, f_X7_twice_23 K P n M (nI j) (nI i) V = some ((match putsL S.1 (dbR j (S.2.1.drop i) i) t with | .inl e => e | .inr o => howL S.1 S.2.1 o S.2.2), V2) ∧ MF M AX JX V V2 := by
  intro n
  induction n with
  | zero => intro i V t h; omega
  | succ n ih =>
    intro i V t hn hi hS hr ht hs hf
    have h5 := hw.2.1
    rw [f_X7_twice_23, gI_k hK.1, hS.2.1.1]
    by_cases hlt : i < S.2.1.length
    · have hci : S.2.1.getD i 0 < 5 := by
        rw [List.getD_eq_getElem?_getD, List.getElem?_eq_getElem hlt]; exact h5.2 _ (List.getElem_mem _)
      have hg : V (M + 7) i = nI (S.2.1.getD i 0) := by rw [hS.2.1.2.get (by rw [List.length_map]; exact hlt) (-6), map_nI_getD hlt]
      obtain ⟨V1, x, e1, h1, f1⟩ := m_put hK hci (hw.1 _ hci) ht hs false (hS.1 _ hci) hr
      have f1x : MF M AX JX V V1 := f1.wd (by decide) (by decide)
      have hS1 := hS.mf f1 (by decide) (by decide)
      have hf1 := hf.mf f1 (by decide) (by decide)
      rw [show bI false = 0 from rfl] at e1
      rw [if_pos ((nI_ltI (by omega) (by omega)).mpr hlt), gR_k hK.1 hK.p8, aI_n hK.k8 (by omega) (by decide), hg, cV_k hK.1 e1, drop_nextN hlt]
      unfold dbR
      have bad : ∀ (cs : List Nat), (x = -5 ∧ putL (S.1 (S.2.1.getD i 0)) false t = none) ∨ (x = -7 ∧ ∃ o, putL (S.1 (S.2.1.getD i 0)) false t = some o ∧ 400 < o.length) → ∃ V2, f_X7_twice_66 K P (f_X7_twice_23 K P n) M (nI j) (nI i) x V1 = some ((match putsL S.1 (S.2.1.getD i 0 :: cs) t with | .inl e => e | .inr o => howL S.1 S.2.1 o S.2.2), V2) ∧ MF M AX JX V V2 := by
        intro cs hb
        rw [f_X7_twice_66, f_X7_twice_67]
        unfold putsL
        rcases hb with ⟨rfl, hp⟩ | ⟨rfl, o, hp, ho⟩
        · rw [hp, if_pos (by decide)]; exact ⟨V1, rfl, f1x⟩
        · rw [hp, if_pos (by decide)]
          refine ⟨V1, ?_, f1x⟩
          show _ = some ((match (if 400 < o.length then Sum.inl (-7) else putsL S.1 cs o : Int32 ⊕ List Int32) with | .inl e => e | .inr o => howL S.1 S.2.1 o S.2.2), V1)
          rw [if_pos ho]
      cases hp : putL (S.1 (S.2.1.getD i 0)) false t with
      | none =>
        rw [hp] at h1
        have hx : x = -5 := h1
        rw [if_neg (by rw [hx]; decide)]
        by_cases hij : i = j
        · rw [if_pos hij]; exact bad _ (Or.inl ⟨hx, hp⟩)
        · rw [if_neg hij]; exact bad _ (Or.inl ⟨hx, hp⟩)
      | some o =>
        rw [hp] at h1
        have h1' : (if 400 < o.length then x = -7 else x = 0 ∧ RowM V1 M o) := h1
        by_cases ho : 400 < o.length
        · rw [if_pos ho] at h1'
          rw [if_neg (by rw [h1']; decide)]
          by_cases hij : i = j
          · rw [if_pos hij]; exact bad _ (Or.inr ⟨h1', o, hp, ho⟩)
          · rw [if_neg hij]; exact bad _ (Or.inr ⟨h1', o, hp, ho⟩)
        · rw [if_neg ho] at h1'
          obtain ⟨rfl, hro⟩ := h1'
          have hso := putL_sg (hw.1 _ hci) hs hp
          rw [if_pos rfl]
          have p1 : ∀ cs, putsL S.1 (S.2.1.getD i 0 :: cs) t = putsL S.1 cs o := by
            intro cs
            show (match putL (S.1 (S.2.1.getD i 0)) false t with | none => _ | some o => _) = _
            rw [hp]
            show (if 400 < o.length then _ else _) = _
            rw [if_neg ho]
          by_cases hij : i = j
          · have hg1 : V1 (M + 7) i = nI (S.2.1.getD i 0) := by rw [hS1.2.1.2.get (by rw [List.length_map]; exact hlt) (-6), map_nI_getD hlt]
            obtain ⟨V2, y, e2, h2, f2⟩ := m_put hK hci (hw.1 _ hci) (by omega) hso false (hS1.1 _ hci) hro
            have f2x : MF M AX JX V1 V2 := f2.wd (by decide) (by decide)
            rw [show bI false = 0 from rfl] at e2
            rw [if_pos (by rw [hij]), if_pos hij, gR_k hK.1 hK.p8, aI_n hK.k8 (by omega) (by decide), hg1, cV_k hK.1 e2, p1]
            rw [f_X7_twice_67]
            cases hp2 : putL (S.1 (S.2.1.getD i 0)) false o with
            | none =>
              rw [hp2] at h2
              have hy : y = -5 := h2
              subst hy
              refine ⟨V2, ?_, f1x.tr f2x⟩
              rw [if_pos (by decide)]
              unfold putsL
              rw [hp2]
            | some o2 =>
              rw [hp2] at h2
              have h2' : (if 400 < o2.length then y = -7 else y = 0 ∧ RowM V2 M o2) := h2
              have p2 : ∀ cs, putsL S.1 (S.2.1.getD i 0 :: cs) o = if 400 < o2.length then Sum.inl (-7) else putsL S.1 cs o2 := by
                intro cs
                show (match putL (S.1 (S.2.1.getD i 0)) false o with | none => _ | some o => _) = _
                rw [hp2]
              rw [p2]
              by_cases ho2 : 400 < o2.length
              · rw [if_pos ho2] at h2' ⊢
                subst h2'
                exact ⟨V2, by rw [if_pos (by decide)], f1x.tr f2x⟩
              · rw [if_neg ho2] at h2' ⊢
                obtain ⟨rfl, hro2⟩ := h2'
                obtain ⟨V3, e3, f3⟩ := ih (i + 1) V2 o2 (by omega) (by omega) (hS1.mf f2 (by decide) (by decide)) hro2 (by omega) (putL_sg (hw.1 _ hci) hso hp2) (hf1.mf f2 (by decide) (by decide))
                exact ⟨V3, by rw [if_neg (by decide), nI_1, e3], (f1x.tr f2x).tr f3⟩
          · rw [if_neg (fun z => hij ((nI_eq (by omega) (by omega)).mp z)), if_neg hij, f_X7_twice_66, f_X7_twice_67, if_neg (by decide), p1, nI_1]
            obtain ⟨V3, e3, f3⟩ := ih (i + 1) V1 o (by omega) (by omega) hS1 hro (by omega) hso hf1
            exact ⟨V3, e3, f1x.tr f3⟩
    · rw [if_neg (fun z => hlt ((nI_ltI (by omega) (by omega)).mp z)), List.drop_eq_nil_of_le (by omega)]
      obtain ⟨V2, e2, f2⟩ := m_howBack hK hw hS hr ht hs hf hw.2.2.1.2
      exact ⟨V2, by rw [cV_k hK.1 e2]; rfl, f2⟩
theorem e_twice (hK : ClsK K P B) (x : Int32) : Eq2 B (fun V => f_X6_twice K P B x V) (fun V => f_X7_twice K P (B + 88) x V) := by
  intro V pad S h
  show ∃ r V1 V2, f_X6_twice K P B x V = _ ∧ f_X7_twice K P (B + 88) x V1 = _ ∧ _
  have hc5 := h.wf.2.1
  have h12 := h.wf.2.2.1
  have ip := c_isPlace hK h.c h.wf x
  rcases in_place (n := S.2.1.length) (by omega) x with ⟨j, hj, rfl, hb⟩ | ⟨hb, -⟩
  · have hD : (dbR j S.2.1 0).length ≤ 6 := by
      have := dbR_len j S.2.1 0
      rw [if_pos (Nat.zero_le _)] at this
      omega
    obtain ⟨V1, e1, h1, f1⟩ := row_clear hK.r6 V
    have q1 : CQ B V V1 := CQ.of h.c.pas f1 (by omega) (by omega)
    obtain ⟨V2, e2, q2⟩ := c_twice_loop hK h.wf (j := j) (D := dbR j S.2.1 0) hD (fun z hz => hc5.2 z (dbR_mem _ _ _ z hz)) (by omega) FU 0 V1 [] (FU_lt (by omega)) (by omega) (by rw [List.nil_append, List.drop_zero]) (h.c.q q1) h1
    rw [nI_0] at e2
    have hV2 := (h.q q1).q q2
    obtain ⟨V3, e3, h3, g3, f3⟩ := m_keepText hK.mo (V := V2) hV2.ms h12.2
    obtain ⟨V4, e4, f4⟩ := m_twice_loop hK.mo h.wf (j := j) (by omega) FU 0 V3 S.2.2 (FU_lt (by omega)) (by omega) (hV2.ms.mf f3 (by decide) (by decide)) h3 (by omega) h.wf.2.2.2 g3
    rw [nI_0, List.drop_zero, ← out_puts S _ _ (by omega)] at e4
    refine ⟨outL S (dbR j S.2.1 0) S.2.2 (-6), V2, V4, ?_, ?_, h.ask (q1.tr q2) (f3.tr f4)⟩
    · rw [f_X6_twice, cV_k hK.k ip, hb, show bI true = 1 from rfl, if_neg (by decide), gR_k hK.k hK.p6, cV_k hK.r6.1 e1, e2]
    · rw [f_X7_twice, gI_k hK.mo.1, hV2.ms.2.1.1, cS_k (m_in _ _ _ _), hb, show bI true = 1 from rfl, if_neg (by decide), cV_k hK.mo.1 e3, e4]
  · refine ⟨-2, V, V, ?_, ?_, pad, S, h⟩
    · rw [f_X6_twice, cV_k hK.k ip, hb, show bI false = 0 from rfl, if_pos rfl]
    · rw [f_X7_twice, gI_k hK.mo.1, h.ms.2.1.1, cS_k (m_in _ _ _ _), hb, show bI false = 0 from rfl, if_pos rfl]
end TW
/-! digits -/
def dgL (b : Nat) : Nat → Nat → List Nat
  | 0, _ => []
  | n + 1, k => dgL b n (k / b) ++ [k % b]
theorem dgL_len (b : Nat) : ∀ (n k : Nat), (dgL b n k).length = n
  | 0, _ => rfl
  | n + 1, k => by unfold dgL; rw [List.length_append, dgL_len b n]; rfl
theorem dgL_lt {b : Nat} (hb : 0 < b) : ∀ (n k : Nat), ∀ d ∈ dgL b n k, d < b
  | 0, _, d, h => by unfold dgL at h; simp at h
  | n + 1, k, d, h => by
    unfold dgL at h
    rcases List.mem_append.mp h with h | h
    · exact dgL_lt hb n _ d h
    · simp only [List.mem_cons, List.not_mem_nil, or_false] at h
      rw [h]; exact Nat.mod_lt _ hb
theorem dgL_zero (b : Nat) : ∀ (n : Nat), dgL b n 0 = List.replicate n 0
  | 0 => rfl
  | n + 1 => by unfold dgL; rw [Nat.zero_div, Nat.zero_mod, dgL_zero b n, List.replicate_succ']
theorem nd_app (base x : Int32) : ∀ (i : Nat) (l : List Int32), i ≤ l.length → nd base (l ++ [x]) i = ((nd base l i).1 ++ [x], (nd base l i).2)
  | 0, l, _ => rfl
  | i + 1, l, h => by
    have hg : (l ++ [x]).getD i (-6) = l.getD i (-6) := by
      rw [List.getD_eq_getElem?_getD, List.getD_eq_getElem?_getD, List.getElem?_append_left (by omega)]
    unfold nd
    rw [hg, List.set_append_left _ _ (by omega), List.set_append_left _ _ (by omega)]
    split
    · rfl
    · exact nd_app base x i (l.set i 0) (by rw [List.length_set]; omega)
theorem nd_dg {b : Nat} (hb : 0 < b) (hb2 : b < 1000) : ∀ (n k : Nat), k < b ^ n → nd (nI b) ((dgL b n k).map nI) n = ((dgL b n (k + 1)).map nI, decide (k + 1 < b ^ n))
  | 0, k, h => by
    have : k = 0 := by simpa using h
    subst this; rfl
  | n + 1, k, h => by
    have hlt : k % b < b := Nat.mod_lt _ hb
    have hdm := Nat.div_add_mod k b
    have hk : k / b < b ^ n := by
      rw [Nat.div_lt_iff_lt_mul hb]
      rw [Nat.pow_succ] at h; exact h
    have hlen : ((dgL b n (k / b)).map nI).length = n := by rw [List.length_map, dgL_len]
    have e1 : (dgL b (n + 1) k).map nI = (dgL b n (k / b)).map nI ++ [nI (k % b)] := by
      show (dgL b n (k / b) ++ [k % b]).map nI = _
      rw [List.map_append]; rfl
    have e2 : (dgL b (n + 1) (k + 1)).map nI = (dgL b n ((k + 1) / b)).map nI ++ [nI ((k + 1) % b)] := by
      show (dgL b n ((k + 1) / b) ++ [(k + 1) % b]).map nI = _
      rw [List.map_append]; rfl
    rw [e1, e2]
    have hg : ((dgL b n (k / b)).map nI ++ [nI (k % b)]).getD n (-6) = nI (k % b) := by
      rw [List.getD_eq_getElem?_getD, List.getElem?_append_right (by omega), hlen, Nat.sub_self]; rfl
    have hset : ∀ z : Int32, ((dgL b n (k / b)).map nI ++ [nI (k % b)]).set n z = (dgL b n (k / b)).map nI ++ [z] := by
      intro z
      rw [List.set_append_right _ _ (by omega), hlen, Nat.sub_self]; rfl
    unfold nd
    rw [hg, hset, hset, nI_1]
    by_cases hc : k % b + 1 < b
    · have hd : (k + 1) / b = k / b ∧ (k + 1) % b = k % b + 1 := by
        have : k + 1 = b * (k / b) + (k % b + 1) := by omega
        rw [this, Nat.mul_add_div hb, Nat.mul_add_mod, Nat.div_eq_of_lt hc, Nat.mod_eq_of_lt hc]
        exact ⟨rfl, rfl⟩
      have hlt2 : k + 1 < b ^ (n + 1) := by
        have h3 : b * (k / b + 1) ≤ b * b ^ n := Nat.mul_le_mul_left _ (by omega)
        rw [Nat.pow_succ, Nat.mul_comm (b ^ n) b]
        rw [Nat.mul_add] at h3
        omega
      rw [if_pos ((nI_ltI (by omega) (by omega)).mpr hc), hd.1, hd.2, decide_eq_true hlt2]
    · have hd : (k + 1) / b = k / b + 1 ∧ (k + 1) % b = 0 := by
        have : k + 1 = b * (k / b + 1) + 0 := by rw [Nat.mul_add]; omega
        rw [this, Nat.mul_add_div hb, Nat.mul_add_mod, Nat.zero_div, Nat.zero_mod]
        exact ⟨rfl, rfl⟩
      have hiff : (k / b + 1 < b ^ n) ↔ (k + 1 < b ^ (n + 1)) := by
        have : k + 1 = b * (k / b + 1) := by rw [Nat.mul_add]; omega
        rw [this, Nat.pow_succ, Nat.mul_comm (b ^ n) b]
        exact (Nat.mul_lt_mul_left hb).symm
      rw [if_neg (fun z => hc ((nI_ltI (by omega) (by omega)).mp z)), show (0 : Int32) = nI 0 from nI_0.symm, nd_app _ _ n _ (by rw [hlen]; exact Nat.le_refl _), nd_dg hb hb2 n (k / b) hk, hd.1, hd.2]
      simp only [hiff]
