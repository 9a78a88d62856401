/-! PURE PART, 5: a layer told, copied; the stand; the passage -/
def partL (y : LayT) (x : Int32) : Int32 := if x = 0 then y.1 else if x = 1 then y.2.1 else if x = 2 then y.2.2.1 else atI y.2.2.2 (x - 3)
def afB (y : LayT) : Bool := decide (y.1 = -6) && (decide (y.2.1 = 0) && decide (y.2.2.2 = []))
def becL (l : List Int32) : LayT := (if l.getD 0 (-6) = 45 then -6 else l.getD 0 (-6), l.getD 1 (-6) - 48, if hmB (l.getD 1 (-6) - 48) = true then l.getD 2 (-6) else -6, l.drop (fhI (l.getD 1 (-6) - 48)))
section LAY2
variable {K : KT} {P : PT} {V : VT} {a r q N M : Nat} {y y2 : LayT} {t : List Int32} {oq : Int32}
theorem lay_heldCount (hK : LayK K P a) (hV : LayV V a y) : f_X1_heldCount K P a V = some (nI y.2.2.2.length, V) := by
  rw [f_X1_heldCount, gR_k hK.1 hK.2.1, cV_k hK.2.2.1 (row_size hK.2.2 hV.2.2.2)]
theorem lay_part (hK : LayK K P a) (hV : LayV V a y) (x : Int32) : f_X1_part K P a x V = some (partL y x, V) := by
  obtain ⟨k1, k2, k3⟩ := hK
  obtain ⟨v1, v2, v3, v4⟩ := hV
  unfold f_X1_part partL
  split
  · rw [gI_k k1, v1]
  · split
    · rw [gI_k k1, v2]
    · split
      · rw [gI_k k1, v3]
      · rw [gR_k k1 k2, cV_k k3.1 (row_at (by decide) k3 v4 _)]
theorem lay_isAsAtFirst (hK : LayK K P a) (hV : LayV V a y) : f_X1_isAsAtFirst K P a V = some (bI (afB y), V) := by
  obtain ⟨k1, k2, k3⟩ := hK
  obtain ⟨v1, v2, v3, v4⟩ := hV
  unfold f_X1_isAsAtFirst afB
  rw [gI_k k1, v1]
  by_cases h : y.1 = -6
  · rw [if_pos h, decide_eq_true h, gI_k k1, v2]
    by_cases h2 : y.2.1 = 0
    · rw [if_pos h2, decide_eq_true h2, gR_k k1 k2, cV_k k3.1 (row_size k3 v4)]
      have hl : y.2.2.2.length ≤ 6 := v4.2.1
      by_cases h3 : y.2.2.2 = []
      · rw [h3]; rfl
      · have : 0 < y.2.2.2.length := List.length_pos_iff.mpr h3
        rw [if_neg (nI_ne0 this (by omega)), decide_eq_false h3]; rfl
    · rw [if_neg h2, decide_eq_false h2]; rfl
  · rw [if_neg h, decide_eq_false h]; rfl
theorem vset_frs {a k : Nat} {x : Int32} : Fr a (a + 3) V (vset V a k x) := Fr.set (by omega) (by omega)
theorem lay_copyFrom {b : Nat} (hK : LayK K P a) (hKb : LayK K P b) (hb : LayV V b y) (hd : a + 3 ≤ b ∨ b + 3 ≤ a) : ∃ V2, f_X1_copyFrom K P a b V = some ((), V2) ∧ LayV V2 a y ∧ Fr a (a + 3) V V2 := by
  obtain ⟨k1, k2, k3⟩ := hK
  obtain ⟨b1, b2, b3⟩ := hKb
  obtain ⟨v1, v2, v3, v4⟩ := hb
  have f : Fr a (a + 3) V (vset (vset (vset V a 0 y.1) a 1 y.2.1) a 2 y.2.2.1) := (vset_frs.tr vset_frs).tr vset_frs
  obtain ⟨V2, e2, h2, f2⟩ := row_copyFrom (r := a + 1) (q := b + 1) (V := vset (vset (vset V a 0 y.1) a 1 y.2.1) a 2 y.2.2.1) (by decide) k3 (by decide) b3 (by omega) v4.2.1 (v4.fr f (by omega)) (by have := v4.2.1; omega)
  have ea : V2 a = (vset (vset (vset V a 0 y.1) a 1 y.2.1) a 2 y.2.2.1) a := f2 a (by omega)
  refine ⟨V2, ?_, ⟨?_, ?_, ?_, h2⟩, f.tr (f2.wd (by omega) (by omega))⟩
  · rw [f_X1_copyFrom, gI_k b1, v1, sI_k k1, gI_k b1, vset_ne (by omega), v2, sI_k k1, gI_k b1, vset_ne (by omega), vset_ne (by omega), v3, sI_k k1, gR_k k1 k2, gR_k b1 b2, cV_k k3.1 e2]
  · rw [ea, vset_k (by decide), vset_k (by decide), vset_at]
  · rw [ea, vset_k (by decide), vset_at]
  · rw [ea, vset_at]
theorem lay_become_loop (hK : LayK K P a) (hM : M < 1000) (hKq : RowK K P q M) (hd : a + 3 ≤ q ∨ q + 2 ≤ a) {h0 : Nat} (hh : (t.drop h0).length ≤ 6) :
    ∀ (n i : Nat) (V : VT), t.length + 1 - i < n → h0 ≤ i → i < 10000 → RowV V q M t oq → RowV V (a + 1) 6 ((t.drop h0).take (i - h0)) 0 →
      ∃ V2, f_X1_become_75 K P n a q (nI i) V = some ((), V2) ∧ RowV V2 (a + 1) 6 (t.drop h0) 0 ∧ Fr (a + 1) (a + 3) V V2 := by
  intro n
  induction n with
  | zero => intro i V h; omega
  | succ n ih =>
    intro i V hn hi hi2 hq hr
    have ht := hq.2.1
    rw [f_X1_become_75, cV_k hKq.1 (row_size hKq hq)]
    by_cases h : i < t.length
    · rw [if_pos ((nI_ltI (by omega) (by omega)).mpr h), gR_k hK.1 hK.2.1, cV_k hKq.1 (row_atn (by omega) hKq hq (by omega))]
      have hlen : (t.drop h0).length = t.length - h0 := List.length_drop
      obtain ⟨V2, e2, h2, f2⟩ := row_add (by decide) hK.2.2 hr (by rw [List.length_take, hlen]; omega) (t.getD i (-6))
      have hg : t.getD i (-6) = (t.drop h0).getD (i - h0) (-6) := by
        rw [List.getD_eq_getElem?_getD, List.getD_eq_getElem?_getD, List.getElem?_drop, show h0 + (i - h0) = i by omega]
      rw [hg, take_next (by rw [hlen]; omega), show i - h0 + 1 = i + 1 - h0 by omega] at h2
      obtain ⟨V3, e3, h3, f3⟩ := ih (i + 1) V2 (by omega) (by omega) (by omega) (hq.fr f2 (by omega)) h2
      exact ⟨V3, by rw [cV_k hK.2.2.1 e2, nI_1, e3], h3, f2.tr f3⟩
    · rw [if_neg (fun z => h ((nI_ltI (by omega) (by omega)).mp z))]
      rw [List.take_of_length_le (by rw [List.length_drop]; omega)] at hr
      exact ⟨V, rfl, hr, Fr.rf⟩
theorem lay_become (hK : LayK K P a) (hM : M < 1000) (hKq : RowK K P q M) (hd : a + 3 ≤ q ∨ q + 2 ≤ a) (hq : RowV V q M t oq) (hh : (t.drop (fhI (t.getD 1 (-6) - 48))).length ≤ 6) (ht3 : fhI (t.getD 1 (-6) - 48) ≤ t.length) :
    ∃ V2, f_X1_become K P a q V = some ((), V2) ∧ LayV V2 a (becL t) ∧ Fr a (a + 3) V V2 := by
  obtain ⟨k1, k2, k3⟩ := id hK
  have ht := hq.2.1
  have at0 : ∀ {V : VT}, RowV V q M t oq → f_X4_at K P q 0 V = some (t.getD 0 (-6), V) := fun h => by
    have := row_atn (by omega) hKq h (j := 0) (by omega); rwa [nI_0] at this
  have at1 : ∀ {V : VT}, RowV V q M t oq → f_X4_at K P q 1 V = some (t.getD 1 (-6), V) := fun h => row_atn (by omega) hKq h (j := 1) (by omega)
  have at2 : ∀ {V : VT}, RowV V q M t oq → f_X4_at K P q 2 V = some (t.getD 2 (-6), V) := fun h => row_atn (by omega) hKq h (j := 2) (by omega)
  have g57 : ∀ (m x : Int32) (V1 : VT), V1 a 0 = m → V1 a 1 = t.getD 1 (-6) - 48 → RowV V1 q M t oq → ∃ V2, f_X1_become_57 K P a q a x V1 = some ((), V2) ∧ LayV V2 a (m, t.getD 1 (-6) - 48, x, t.drop (fhI (t.getD 1 (-6) - 48))) ∧ Fr a (a + 3) V1 V2 := by
    intro m x V1 hm hw hq1
    have f1 : Fr a (a + 3) V1 (vset V1 a 2 x) := vset_frs
    obtain ⟨V2, e2, h2, f2⟩ := row_clear k3 (vset V1 a 2 x)
    have ea2 : V2 a = vset V1 a 2 x a := f2 a (by omega)
    obtain ⟨V3, e3, h3, f3⟩ := lay_become_loop hK hM hKq hd hh FU (fhI (t.getD 1 (-6) - 48)) V2 (FU_lt (by omega)) (Nat.le_refl _) (by unfold fhI; split <;> omega) ((hq1.fr f1 (by omega)).fr f2 (by omega)) (by rw [Nat.sub_self, List.take_zero]; exact h2)
    have ea3 : V3 a = vset V1 a 2 x a := (f3 a (by omega)).trans ea2
    refine ⟨V3, ?_, ⟨?_, ?_, ?_, h3⟩, (f1.tr (f2.wd (by omega) (by omega))).tr (f3.wd (by omega) (by omega))⟩
    · rw [f_X1_become_57, sI_k k1, gR_k k1 k2, cV_k k3.1 e2, gI_k k1, ea2, vset_k (by decide), hw, cS_k (q_firstHeld _ _), e3]
    · rw [ea3, vset_k (by decide)]; exact hm
    · rw [ea3, vset_k (by decide)]; exact hw
    · rw [ea3, vset_at]
  have g21 : ∀ (m : Int32), ∃ V2, f_X1_become_21 K P a q a m V = some ((), V2) ∧ LayV V2 a (m, t.getD 1 (-6) - 48, if hmB (t.getD 1 (-6) - 48) = true then t.getD 2 (-6) else -6, t.drop (fhI (t.getD 1 (-6) - 48))) ∧ Fr a (a + 3) V V2 := by
    intro m
    have f1 : Fr a (a + 3) V (vset V a 0 m) := vset_frs
    have f2 : Fr a (a + 3) V (vset (vset V a 0 m) a 1 (t.getD 1 (-6) - 48)) := f1.tr vset_frs
    have hq1 := hq.fr f1 (by omega)
    have hq2 := hq.fr f2 (by omega)
    have hm1 : vset (vset V a 0 m) a 1 (t.getD 1 (-6) - 48) a 0 = m := by rw [vset_k (by decide), vset_at]
    have hw1 : vset (vset V a 0 m) a 1 (t.getD 1 (-6) - 48) a 1 = t.getD 1 (-6) - 48 := vset_at
    rw [f_X1_become_21, sI_k k1, cV_k hKq.1 (at1 hq1), sI_k k1, gI_k k1, hw1, cS_k (q_hasMask _ _)]
    cases hmB (t.getD 1 (-6) - 48) with
    | false =>
      rw [show bI false = 0 from rfl, if_pos rfl, if_neg (by decide)]
      obtain ⟨V3, e3, h3, f3⟩ := g57 m (-6) _ hm1 hw1 hq2
      exact ⟨V3, e3, h3, f2.tr f3⟩
    | true =>
      rw [if_neg (by decide), if_pos rfl, cV_k hKq.1 (at2 hq2)]
      obtain ⟨V3, e3, h3, f3⟩ := g57 m (t.getD 2 (-6)) _ hm1 hw1 hq2
      exact ⟨V3, e3, h3, f2.tr f3⟩
  rw [f_X1_become, cV_k hKq.1 (at0 hq)]
  unfold becL
  by_cases h : t.getD 0 (-6) = 45
  · rw [if_pos h, if_pos h]; exact g21 _
  · rw [if_neg h, if_neg h, cV_k hKq.1 (at0 hq)]; exact g21 _
end LAY2
/-! the stand -/
def StdK (K : KT) (P : PT) (s : Nat) : Prop := K s = some (.inl 3) ∧ P s 0 = some (s + 1) ∧ K (s + 1) = some (.inr (2, 5)) ∧ (P s 2 = some (s + 5) ∧ RowK K P (s + 5) 5) ∧ (P s 3 = some (s + 7) ∧ RowK K P (s + 7) 12) ∧ ∀ i, i < 5 → P (s + 1) i = some (s + 9 + 3 * i) ∧ LayK K P (s + 9 + 3 * i)
abbrev StT : Type := (Nat → LayT) × List Nat × List Int32
def StdV (V : VT) (s : Nat) (S : StT) : Prop := (∀ i, i < 5 → LayV V (s + 9 + 3 * i) (S.1 i)) ∧ RowV V (s + 5) 5 (S.2.1.map nI) 0 ∧ RowV V (s + 7) 12 S.2.2 0
theorem StdV.fr {V V2 : VT} {s lo hi : Nat} {S : StT} (h : StdV V s S) (hf : Fr lo hi V V2) (hr : s + 24 ≤ lo ∨ hi ≤ s + 5) : StdV V2 s S :=
  ⟨fun i hi' => (h.1 i hi').fr hf (by omega), h.2.1.fr hf (by omega), h.2.2.fr hf (by omega)⟩
section STD
variable {K : KT} {P : PT} {V : VT} {s : Nat} {S : StT}
theorem std_layerAt (hK : StdK K P s) {j : Nat} (hj : j < 5) (V : VT) : f_X5_layerAt K P s (nI j) V = some (s + 9 + 3 * j, V) := by
  obtain ⟨k1, k2, k3, k4, k5, k6⟩ := hK
  rw [f_X5_layerAt, if_neg (nI_pos (by omega)), gR_k k1 k2, aN_k k3 (by decide), if_pos ((nI_ltI (by omega) (by omega)).mpr hj), gR_k k1 k2, aQ_n k3 hj (by decide) (k6 j hj).1, gR_k k1 k2, aQ_n k3 hj (by decide) (k6 j hj).1]
theorem std_copy_loop {o : Nat} (hK : StdK K P s) (hKo : StdK K P o) (hd : s + 24 ≤ o ∨ o + 24 ≤ s) :
    ∀ (n i : Nat) (V : VT), 5 - i < n → i ≤ 5 → StdV V o S → (∀ j, j < i → LayV V (s + 9 + 3 * j) (S.1 j)) → ∃ V2, f_X5_copyFrom_2 K P n s o (nI i) V = some ((), V2) ∧ StdV V2 s S ∧ Fr (s + 5) (s + 24) V V2 := by
  intro n
  induction n with
  | zero => intro i V h; omega
  | succ n ih =>
    intro i V hn hi hV hL
    rw [f_X5_copyFrom_2, show (5 : Int32) = nI 5 from rfl]
    by_cases h : i < 5
    · rw [if_pos ((nI_ltI (by omega) (by omega)).mpr h), cV_k hK.1 (std_layerAt hK h V), cV_k hKo.1 (std_layerAt hKo h V)]
      obtain ⟨V2, e2, h2, f2⟩ := lay_copyFrom (hK.2.2.2.2.2 i h).2 (hKo.2.2.2.2.2 i h).2 (hV.1 i h) (by omega)
      rw [cV_k (hK.2.2.2.2.2 i h).2.1 e2, nI_1]
      obtain ⟨V3, e3, h3, f3⟩ := ih (i + 1) V2 (by omega) (by omega) (hV.fr f2 (by omega)) (fun j hj => by
        by_cases hji : j = i
        · subst hji; exact h2
        · exact (hL j (by omega)).fr f2 (by omega))
      exact ⟨V3, e3, h3, (f2.wd (by omega) (by omega)).tr f3⟩
    · have hi5 : i = 5 := by omega
      subst hi5
      obtain ⟨k1, k2, k3, k4, k5, k6⟩ := hK
      obtain ⟨o1, o2, o3, o4, o5, o6⟩ := hKo
      obtain ⟨v1, v2, v3⟩ := hV
      have hc := v2.2.1
      have htx := v3.2.1
      obtain ⟨V2, e2, h2, f2⟩ := row_copyFrom (V := V) (by decide) k4.2 (by decide) o4.2 (by omega) hc v2 (by omega)
      obtain ⟨V3, e3, h3, f3⟩ := row_copyFrom (V := V2) (by decide) k5.2 (by decide) o5.2 (by omega) htx (v3.fr f2 (by omega)) (by omega)
      refine ⟨V3, ?_, ⟨fun j hj => ((hL j hj).fr f2 (by omega)).fr f3 (by omega), h2.fr f3 (by omega), h3⟩, (f2.wd (by omega) (by omega)).tr (f3.wd (by omega) (by omega))⟩
      rw [if_neg (fun z => absurd ((nI_ltI (by omega) (by omega)).mp z) (by omega)), gR_k k1 k4.1, gR_k o1 o4.1, cV_k k4.2.1 e2, gR_k k1 k5.1, gR_k o1 o5.1, cV_k k5.2.1 e3]
theorem std_copyFrom {o : Nat} (hK : StdK K P s) (hKo : StdK K P o) (hd : s + 24 ≤ o ∨ o + 24 ≤ s) (hV : StdV V o S) : ∃ V2, f_X5_copyFrom K P s o V = some ((), V2) ∧ StdV V2 s S ∧ Fr (s + 5) (s + 24) V V2 := by
  obtain ⟨V2, e2, h2, f2⟩ := std_copy_loop hK hKo hd FU 0 V (FU_lt (by omega)) (by omega) hV (fun j hj => by omega)
  rw [nI_0] at e2
  exact ⟨V2, by rw [f_X5_copyFrom, e2], h2, f2⟩
end STD
/-! the passage -/
def PasK (K : KT) (P : PT) (p : Nat) : Prop := K p = some (.inl 1) ∧ P p 0 = some (p + 1) ∧ P p 1 = some (p + 3) ∧ RowK K P (p + 1) 400 ∧ RowK K P (p + 3) 400
def PasF (V : VT) (p : Nat) : Prop := V p 2 = 0 ∨ V p 2 = 1
def herA (V : VT) (p : Nat) : Nat := if V p 2 = 0 then p + 1 else p + 3
def thrA (V : VT) (p : Nat) : Nat := if V p 2 = 0 then p + 3 else p + 1
def PasV (V : VT) (p : Nat) (t : List Int32) : Prop := PasF V p ∧ RowV V (herA V p) 400 t 0
section PAS
variable {K : KT} {P : PT} {V : VT} {p : Nat}
theorem herA_in (V : VT) (p : Nat) : p + 1 ≤ herA V p ∧ herA V p + 2 ≤ p + 5 := by unfold herA; split <;> omega
theorem thrA_in (V : VT) (p : Nat) : p + 1 ≤ thrA V p ∧ thrA V p + 2 ≤ p + 5 := by unfold thrA; split <;> omega
theorem her_thr (V : VT) (p : Nat) : herA V p + 2 ≤ thrA V p ∨ thrA V p + 2 ≤ herA V p := by unfold herA thrA; split <;> omega
theorem herK (hK : PasK K P p) (V : VT) : RowK K P (herA V p) 400 := by unfold herA; split; exact hK.2.2.2.1; exact hK.2.2.2.2
theorem thrK (hK : PasK K P p) (V : VT) : RowK K P (thrA V p) 400 := by unfold thrA; split; exact hK.2.2.2.2; exact hK.2.2.2.1
theorem pas_here (hK : PasK K P p) (V : VT) : f_X3_here K P p V = some (herA V p, V) := by
  unfold f_X3_here herA
  rw [gI_k hK.1]
  split
  · rw [gR_k hK.1 hK.2.1]
  · rw [gR_k hK.1 hK.2.2.1]
theorem pas_there (hK : PasK K P p) (V : VT) : f_X3_there K P p V = some (thrA V p, V) := by
  unfold f_X3_there thrA
  rw [gI_k hK.1]
  split
  · rw [gR_k hK.1 hK.2.2.1]
  · rw [gR_k hK.1 hK.2.1]
theorem pas_step (hK : PasK K P p) (hF : PasF V p) : ∃ V2, f_X3_step K P p V = some ((), V2) ∧ PasF V2 p ∧ herA V2 p = thrA V p ∧ (∀ b, b ≠ p → V2 b = V b) ∧ ∀ j, j ≠ 2 → V2 p j = V p j := by
  rcases hF with h | h
  · refine ⟨vset V p 2 1, ?_, Or.inr vset_at, ?_, fun b hb => vset_ne hb, fun j hj => vset_k hj⟩
    · rw [f_X3_step, gI_k hK.1, h, if_pos rfl, sB_k hK.1 (Or.inr rfl)]
    · unfold herA thrA; rw [vset_at, h]; rfl
  · refine ⟨vset V p 2 0, ?_, Or.inl vset_at, ?_, fun b hb => vset_ne hb, fun j hj => vset_k hj⟩
    · rw [f_X3_step, gI_k hK.1, h, if_neg (by decide), sB_k hK.1 (Or.inl rfl)]
    · unfold herA thrA; rw [vset_at, h]; rfl
theorem pas_begin {q M : Nat} {t : List Int32} {oq : Int32} (hK : PasK K P p) (hF : PasF V p) (hM : M ≤ 400) (hKq : RowK K P q M) (hq : RowV V q M t oq) (hd : q + 2 ≤ p ∨ p + 5 ≤ q) : ∃ V2, f_X3_begin K P p q V = some ((), V2) ∧ PasV V2 p t ∧ Fr (p + 1) (p + 5) V V2 := by
  have ht := hq.2.1
  have hi := herA_in V p
  obtain ⟨V2, e2, h2, f2⟩ := row_copyFrom (V := V) (by decide) (herK hK V) (by omega) hKq (by omega) (by omega) hq (by omega)
  have f3 : Fr (p + 1) (p + 5) V V2 := f2.wd hi.1 hi.2
  have ep : V2 p = V p := f3 p (by omega)
  have eh : herA V2 p = herA V p := by unfold herA; rw [ep]
  refine ⟨V2, ?_, ⟨by unfold PasF; rw [ep]; exact hF, by rw [eh]; exact h2⟩, f3⟩
  rw [f_X3_begin, cV_k hK.1 (pas_here hK V), cV_k (herK hK V).1 e2]
/-- through the layers, one after another: who refuses (and where), or what comes out -/
def thruL (ly : Nat → LayT) (fg : Int32) : List Nat → Nat → List Int32 → (Int32 × Nat) ⊕ List Int32
  | [], _, t => .inr t
  | c :: cs, k, t => match putL (ly c) (decide (nI k = fg)) t with
    | none => .inl (-5, k)
    | some o => if 400 < o.length then .inl (-7, k) else thruL ly fg cs (k + 1) o
def ThruP (V2 : VT) (p : Nat) (x : (Int32 × Nat) ⊕ List Int32) (res : Int32) : Prop := match x with
  | .inl (e, k) => res = e ∧ V2 p 3 = (if e = -5 then nI k else -6) ∧ PasF V2 p
  | .inr o => res = nI o.length ∧ V2 p 3 = -6 ∧ PasV V2 p o
theorem nI_ne_neg {a : Nat} (h : a < 2 ^ 31) {z : Int32} (hz : z < 0) : ¬ nI a = z := fun e => nI_pos h (by rw [e]; exact hz)
theorem map_nI_getD {c : List Nat} {i : Nat} (h : i < c.length) (d : Int32) : (c.map nI).getD i d = nI (c.getD i 0) := by
  rw [List.getD_eq_getElem?_getD, List.getD_eq_getElem?_getD, List.getElem?_map, List.getElem?_eq_getElem h]; rfl
theorem drop_nextN {c : List Nat} {i : Nat} (h : i < c.length) : c.drop i = c.getD i 0 :: c.drop (i + 1) := by
  rw [List.getD_eq_getElem?_getD, List.getElem?_eq_getElem h]
  exact List.drop_eq_getElem_cons h
theorem thru_loop {s q M : Nat} {S : StT} {c : List Nat} {oq : Int32} (hK : PasK K P p) (hKs : StdK K P s) (hds : s + 24 ≤ p ∨ p + 5 ≤ s) (hM : M < 1000) (hKq : RowK K P q M) (hdq : q + 2 ≤ p ∨ p + 5 ≤ q) (hc5 : ∀ x ∈ c, x < 5) (fg : Int32) :
    ∀ (n i : Nat) (V : VT) (t : List Int32), c.length - i < n → i ≤ c.length → (∀ j, j < 5 → LayV V (s + 9 + 3 * j) (S.1 j)) → RowV V q M (c.map nI) oq → PasV V p t → V p 3 = -6 →
      ∃ V2 res, f_X3_putThrough_17 K P n p s q fg (nI i) V = some (res, V2) ∧ ThruP V2 p (thruL S.1 fg (c.drop i) i t) res ∧ Fr p (p + 5) V V2 := by
  intro n
  induction n with
  | zero => intro i V t h; omega
  | succ n ih =>
    intro i V t hn hi hV hq hp h3
    have hcl := hq.2.1
    rw [List.length_map] at hcl
    rw [f_X3_putThrough_17, cV_k hKq.1 (row_size hKq hq), List.length_map]
    by_cases h : i < c.length
    · have hci : c.getD i 0 < 5 := by
        rw [List.getD_eq_getElem?_getD, List.getElem?_eq_getElem h]; exact hc5 _ (List.getElem_mem h)
      rw [if_pos ((nI_ltI (by omega) (by omega)).mpr h), cV_k hKq.1 (row_atn (by omega) hKq hq (by omega)), map_nI_getD h, cV_k hKs.1 (std_layerAt hKs hci V), cV_k hK.1 (pas_here hK V), cV_k hK.1 (pas_there hK V), drop_nextN h]
      have hthr := thrA_in V p
      have hher := herA_in V p
      obtain ⟨V1, x, e1, h1, f1⟩ := lay_put (hKs.2.2.2.2.2 _ hci).2 (hV _ hci) (thrK hK V) (by decide) (herK hK V) hp.2 (by omega) (her_thr V p) (decide (nI i = fg))
      have f1p : Fr (p + 1) (p + 5) V V1 := f1.wd hthr.1 hthr.2
      have ep : V1 p = V p := f1p p (by omega)
      have key : ∃ V2 res, f_X3_putThrough_56 K P (f_X3_putThrough_17 K P n) p s q fg (nI i) (s + 9 + 3 * c.getD i 0) (herA V p) (thrA V p) (bI (decide (nI i = fg))) V = some (res, V2) ∧ ThruP V2 p (thruL S.1 fg (c.getD i 0 :: c.drop (i + 1)) i t) res ∧ Fr p (p + 5) V V2 := by
        rw [f_X3_putThrough_56, cV_k (hKs.2.2.2.2.2 _ hci).2.1 e1]
        unfold thruL
        cases hx : putL (S.1 (c.getD i 0)) (decide (nI i = fg)) t with
        | none =>
          rw [hx] at h1
          have hx5 : x = -5 := h1
          subst hx5
          refine ⟨vset V1 p 3 (nI i), -5, ?_, ⟨rfl, by rw [vset_at]; rfl, ?_⟩, (f1p.wd (by omega) (by omega)).tr (Fr.set (by omega) (by omega))⟩
          · rw [if_pos rfl, sI_k hK.1, f_X3_putThrough_74, if_pos rfl]
          · unfold PasF; rw [vset_k (by decide), ep]; exact hp.1
        | some o =>
          rw [hx] at h1
          by_cases ho : 400 < o.length
          · have h1' : (if 400 < o.length then x = -7 else x = nI o.length ∧ RowV V1 (thrA V p) 400 o 0) := h1
            rw [if_pos ho] at h1'
            subst h1'
            refine ⟨V1, -7, ?_, ?_, f1p.wd (by omega) (by omega)⟩
            · rw [if_neg (by decide), f_X3_putThrough_74, if_neg (by decide), if_pos rfl]
            · show ThruP V1 p (if 400 < o.length then _ else _) _
              rw [if_pos ho]
              exact ⟨rfl, by rw [ep, h3]; rfl, by unfold PasF; rw [ep]; exact hp.1⟩
          · have h1' : (if 400 < o.length then x = -7 else x = nI o.length ∧ RowV V1 (thrA V p) 400 o 0) := h1
            rw [if_neg ho] at h1'
            obtain ⟨rfl, h1r⟩ := h1'
            obtain ⟨V2, e2, hF2, hh2, hb2, hj2⟩ := pas_step hK (show PasF V1 p by unfold PasF; rw [ep]; exact hp.1)
            have hth : thrA V1 p = thrA V p := by unfold thrA; rw [ep]
            have f2 : Fr p (p + 1) V1 V2 := fun b hb => hb2 b (by omega)
            have f12 : Fr p (p + 5) V V2 := (f1p.wd (by omega) (by omega)).tr (f2.wd (by omega) (by omega))
            obtain ⟨V3, res, e3, h3', f3⟩ := ih (i + 1) V2 o (by omega) (by omega) (fun j hj => (hV j hj).fr f12 (by omega)) (hq.fr f12 (by omega)) ⟨hF2, by rw [hh2, hth]; exact h1r.fr f2 (by omega)⟩ (by rw [hj2 3 (by decide), ep, h3])
            refine ⟨V3, res, ?_, ?_, f12.tr f3⟩
            · rw [if_neg (nI_ne_neg (by omega) (by decide)), f_X3_putThrough_74, if_neg (nI_ne_neg (by omega) (by decide)), if_neg (nI_ne_neg (by omega) (by decide)), cV_k hK.1 e2, nI_1, e3]
            · show ThruP V3 p (if 400 < o.length then _ else _) _
              rw [if_neg ho]; exact h3'
      by_cases hfg : nI i = fg
      · rw [if_pos hfg]
        rw [decide_eq_true hfg] at key; exact key
      · rw [if_neg hfg]
        rw [decide_eq_false hfg] at key; exact key
    · rw [if_neg (fun z => h ((nI_ltI (by omega) (by omega)).mp z)), List.drop_eq_nil_of_le (by omega), cV_k hK.1 (pas_here hK V), cV_k (herK hK V).1 (row_size (herK hK V) hp.2)]
      exact ⟨V, _, rfl, ⟨rfl, h3, hp⟩, Fr.rf⟩
theorem pas_putThrough {s q M u Mu : Nat} {S : StT} {c : List Nat} {oq ou : Int32} {t : List Int32} (hK : PasK K P p) (hF : PasF V p) (hKs : StdK K P s) (hds : s + 24 ≤ p ∨ p + 5 ≤ s) (hM : M < 1000) (hKq : RowK K P q M) (hdq : q + 2 ≤ p ∨ p + 5 ≤ q) (hc5 : ∀ x ∈ c, x < 5) (fg : Int32) (hL : ∀ j, j < 5 → LayV V (s + 9 + 3 * j) (S.1 j)) (hq : RowV V q M (c.map nI) oq) (hMu : Mu ≤ 400) (hKu : RowK K P u Mu) (hdu : u + 2 ≤ p ∨ p + 5 ≤ u) (hu : RowV V u Mu t ou) :
    ∃ V2 res, f_X3_putThrough K P p s q u fg V = some (res, V2) ∧ ThruP V2 p (thruL S.1 fg c 0 t) res ∧ Fr p (p + 5) V V2 := by
  have f1 : Fr p (p + 5) V (vset V p 3 (-6)) := Fr.set (by omega) (by omega)
  have hF1 : PasF (vset V p 3 (-6)) p := by unfold PasF; rw [vset_k (by decide)]; exact hF
  have hu1 := hu.fr f1 (by omega)
  have ht := hu.2.1
  have hi := herA_in (vset V p 3 (-6)) p
  obtain ⟨V2, e2, h2, f2⟩ := row_copyFrom (V := vset V p 3 (-6)) (by decide) (herK hK (vset V p 3 (-6))) (by omega) hKu (by omega) (by omega) hu1 (by omega)
  have f2p : Fr (p + 1) (p + 5) (vset V p 3 (-6)) V2 := f2.wd hi.1 hi.2
  have ep : V2 p = vset V p 3 (-6) p := f2p p (by omega)
  have eh : herA V2 p = herA (vset V p 3 (-6)) p := by unfold herA; rw [ep]
  have f12 : Fr p (p + 5) V V2 := f1.tr (f2p.wd (by omega) (by omega))
  have hcl := hq.2.1
  rw [List.length_map] at hcl
  obtain ⟨V3, res, e3, h3, f3⟩ := thru_loop hK hKs hds hM hKq hdq hc5 fg FU 0 V2 t (FU_lt (by omega)) (by omega) (fun j hj => (hL j hj).fr f12 (by omega)) (hq.fr f12 (by omega)) ⟨by unfold PasF; rw [ep]; exact hF1, by rw [eh]; exact h2⟩ (by rw [ep, vset_at])
  rw [nI_0] at e3
  rw [List.drop_zero] at h3
  refine ⟨V3, res, ?_, h3, f12.tr f3⟩
  rw [f_X3_putThrough, sI_k hK.1, cV_k hK.1 (pas_here hK _), cV_k (herK hK (vset V p 3 (-6))).1 e2, e3]
/-- back through the layers, from the k-th to the first: where it does not fit, or what comes out -/
def readL (ly : Nat → LayT) (c : List Nat) : Nat → List Int32 → (Nat × Int32) ⊕ List Int32
  | 0, t => .inr t
  | k + 1, t => if (takeOffL (ly (c.getD k 0)) t).1 = -6 then readL ly c k (takeOffL (ly (c.getD k 0)) t).2 else .inl (k, (takeOffL (ly (c.getD k 0)) t).1)
def ReadP (V2 : VT) (p : Nat) (x : (Nat × Int32) ⊕ List Int32) (res : Int32) : Prop := match x with
  | .inl (k, b) => res = nI k ∧ V2 p 4 = b ∧ PasF V2 p
  | .inr o => res = -6 ∧ V2 p 4 = -6 ∧ PasV V2 p o
theorem read_loop {s q M : Nat} {S : StT} {c : List Nat} {oq : Int32} (hK : PasK K P p) (hKs : StdK K P s) (hds : s + 24 ≤ p ∨ p + 5 ≤ s) (hM : M < 1000) (hKq : RowK K P q M) (hdq : q + 2 ≤ p ∨ p + 5 ≤ q) (hc5 : ∀ x ∈ c, x < 5) :
    ∀ (n k : Nat) (V : VT) (t : List Int32), k < n → k ≤ c.length → (∀ j, j < 5 → LayV V (s + 9 + 3 * j) (S.1 j)) → RowV V q M (c.map nI) oq → PasV V p t → V p 4 = -6 →
      ∃ V2 res, f_X3_readBack_13 K P n p s q (nI k - 1) V = some (res, V2) ∧ ReadP V2 p (readL S.1 c k t) res ∧ Fr p (p + 5) V V2 := by
  intro n
  induction n with
  | zero => intro k V t h; omega
  | succ n ih =>
    intro k V t hn hk hV hq hp h4
    have hcl := hq.2.1
    rw [List.length_map] at hcl
    rw [f_X3_readBack_13]
    cases k with
    | zero =>
      refine ⟨V, -6, by rw [if_pos (by decide)], ⟨rfl, h4, hp⟩, Fr.rf⟩
    | succ k =>
      have h : k < c.length := by omega
      have hck : c.getD k 0 < 5 := by
        rw [List.getD_eq_getElem?_getD, List.getElem?_eq_getElem h]; exact hc5 _ (List.getElem_mem h)
      rw [nI_sub1, if_neg (nI_pos (by omega)), cV_k hKq.1 (row_atn (by omega) hKq hq (by omega)), map_nI_getD h, cV_k hKs.1 (std_layerAt hKs hck V), cV_k hK.1 (pas_here hK V), cV_k hK.1 (pas_there hK V)]
      have hthr := thrA_in V p
      have hher := herA_in V p
      obtain ⟨V1, e1, h1, f1⟩ := lay_takeOff (hKs.2.2.2.2.2 _ hck).2 (hV _ hck) (thrK hK V) (Nat.le_refl _) (herK hK V) hp.2 (by omega) (her_thr V p)
      have f1p : Fr (p + 1) (p + 5) V V1 := f1.wd hthr.1 hthr.2
      have ep : V1 p = V p := f1p p (by omega)
      generalize hr : takeOffL (S.1 (c.getD k 0)) t = r at e1 h1
      rw [cV_k (hKs.2.2.2.2.2 _ hck).2.1 e1, sI_k hK.1, gI_k hK.1, vset_at]
      unfold readL
      rw [hr]
      have fs : Fr p (p + 5) V (vset V1 p 4 r.1) := (f1p.wd (by omega) (by omega)).tr (Fr.set (by omega) (by omega))
      have hFs : PasF (vset V1 p 4 r.1) p := by unfold PasF; rw [vset_k (by decide), ep]; exact hp.1
      by_cases hb : r.1 = -6
      · rw [if_pos hb, if_pos hb]
        obtain ⟨V2, e2, hF2, hh2, hb2, hj2⟩ := pas_step hK hFs
        have hth : thrA (vset V1 p 4 r.1) p = thrA V p := by unfold thrA; rw [vset_k (by decide), ep]
        have f2 : Fr p (p + 1) (vset V1 p 4 r.1) V2 := fun b hb => hb2 b (by omega)
        have f12 : Fr p (p + 5) V V2 := fs.tr (f2.wd (by omega) (by omega))
        have h1s : RowV (vset V1 p 4 r.1) (thrA V p) 400 r.2 0 := h1.fr (Fr.set (lo := p) (hi := p + 1) (by omega) (by omega)) (by omega)
        obtain ⟨V3, res, e3, h3, f3⟩ := ih k V2 r.2 (by omega) (by omega) (fun j hj => (hV j hj).fr f12 (by omega)) (hq.fr f12 (by omega)) ⟨hF2, by rw [hh2, hth]; exact h1s.fr f2 (by omega)⟩ (by rw [hj2 4 (by decide), vset_at, hb])
        refine ⟨V3, res, ?_, h3, f12.tr f3⟩
        rw [cV_k hK.1 e2, nI_add_m1, e3]
      · rw [if_neg hb, if_neg hb]
        exact ⟨_, _, rfl, ⟨rfl, vset_at, hFs⟩, fs⟩
theorem pas_readBack {s q M : Nat} {S : StT} {c : List Nat} {oq : Int32} {t : List Int32} (hK : PasK K P p) (hKs : StdK K P s) (hds : s + 24 ≤ p ∨ p + 5 ≤ s) (hM : M < 1000) (hKq : RowK K P q M) (hdq : q + 2 ≤ p ∨ p + 5 ≤ q) (hc5 : ∀ x ∈ c, x < 5) (hL : ∀ j, j < 5 → LayV V (s + 9 + 3 * j) (S.1 j)) (hq : RowV V q M (c.map nI) oq) (hp : PasV V p t) :
    ∃ V2 res, f_X3_readBack K P p s q V = some (res, V2) ∧ ReadP V2 p (readL S.1 c c.length t) res ∧ Fr p (p + 5) V V2 := by
  have f1 : Fr p (p + 5) V (vset V p 4 (-6)) := Fr.set (by omega) (by omega)
  have hq1 := hq.fr f1 (by omega)
  have hcl := hq.2.1
  rw [List.length_map] at hcl
  have eh : herA (vset V p 4 (-6)) p = herA V p := by unfold herA; rw [vset_k (by decide)]
  have hi := herA_in V p
  obtain ⟨V3, res, e3, h3, f3⟩ := read_loop hK hKs hds hM hKq hdq hc5 FU c.length (vset V p 4 (-6)) t (FU_lt (by omega)) (Nat.le_refl _) (fun j hj => (hL j hj).fr f1 (by omega)) hq1 ⟨by unfold PasF; rw [vset_k (by decide)]; exact hp.1, by rw [eh]; exact hp.2.fr (Fr.set (lo := p) (hi := p + 1) (by omega) (by omega)) (by omega)⟩ vset_at
  refine ⟨V3, res, ?_, h3, f1.tr f3⟩
  rw [f_X3_readBack, sI_k hK.1, cV_k hKq.1 (row_size hKq hq1), List.length_map, e3]
end PAS
