/-! PURE PART, 22: the reference's rows -/
theorem nI_div25 : ∀ a, a < 126 → nI a / 25 = nI (a / 25) := by decide +kernel
theorem nI_div5 {a : Nat} (h : a < 126) : nI a / 5 = nI (a / 5) := nI_div a (by omega) 5 (by decide) (by decide)
theorem nI_rem25 {a : Nat} (h : a < 126) : nI a - nI (a / 25) * 25 = nI (a % 25) := by
  rw [show (25 : Int32) = nI 25 from rfl, pk_mul]
  have := nI_subk (a % 25) (a / 25 * 25)
  rw [show a % 25 + a / 25 * 25 = a by omega] at this
  exact this
theorem nI_rem5 {a : Nat} (h : a < 626) : nI a - nI (a / 5) * 5 = nI (a % 5) := nI_rem (by omega) (by decide) (by decide)
def numI (n : Nat) (a : Nat) (l6 l7 : Int32) : Int32 := if nI n = 1 then 10 + nI a else if nI n = 2 then (100 + 10 * nI a) + l6 else ((1000 + 100 * nI a) + 10 * l6) + l7
def oI : Option Nat → Int32
  | some b => nI b
  | none => -6
def oC : Option Nat → List Nat
  | some c => [c]
  | none => []
def oB (a : Nat) : Option Nat → List Nat
  | some b => [b, a]
  | none => [a]
section ROWM2
variable {K : KT} {P : PT} {B : Nat} {V : VT} {pad : List Int32} {S : StT} {M : Nat}
/-- what becomes of one row -/
def RwP (S : StT) (pad : List Int32) (x : Int32) (M c n : Nat) (l4 : Int32) (ds : List Nat) (k22 : Nat → Int32 → Int32 → Int32 → Int32 → VT → Option (Int32 × VT)) (res : VT → Option (Int32 × VT)) (V : VT) : Prop :=
  ∃ V2, MF M AX JX V V2 ∧ res V = if fitB S pad ds = true then (if nI c = x then some (nI (asN ds), V2) else k22 M x (nI (c + 1)) (nI n) (l4 + 1) V2) else k22 M x (nI c) (nI n) (l4 + 1) V2
theorem m_rows_152 (hK : MoK K P M) (hw : WfS S) (hS : MoS V M S) (hp : PadM V M pad) (hl : pad.length ≤ 60) (hsp : SgL pad) (x : Int32) (c n a : Nat) (l4 : Int32) (k14 : Nat → Int32 → Int32 → Int32 → VT → Option (Int32 × VT)) (k22 : Nat → Int32 → Int32 → Int32 → Int32 → VT → Option (Int32 × VT)) (ha : a < 5) {ob oc : Option Nat} (hb : ∀ b, ob = some b → b < 5) (hc : ∀ c, oc = some c → c < 5) {ds : List Nat} (hds : ds.reverse = oC oc ++ oB a ob) (hany : ds.any (fun d => afB (S.1 d)) = false) (hnum : numI n a (oI ob) (oI oc) = nI (asN ds)) :
    RwP S pad x M c n l4 ds k22 (fun V => f_X7_rows_152 K P k14 k22 M x (nI c) (nI n) l4 (nI a) (oI ob) (oI oc) V) V := by
  obtain ⟨V2, e2', f2⟩ := m_fits hK hw hS hp hl hsp ha hb hc
  have e2 : f_X7_fitsRow K P M (nI a) (oI ob) (oI oc) V = some (bI (frL S.1 (oC oc ++ oB a ob) pad), V2) := e2'
  refine ⟨V2, f2, ?_⟩
  show f_X7_rows_152 K P k14 k22 M x (nI c) (nI n) l4 (nI a) _ _ V = _
  rw [f_X7_rows_152, f_X7_rows_157, if_neg (by decide), cV_k hK.1 e2]
  have hfit : fitB S pad ds = frL S.1 (oC oc ++ oB a ob) pad := by
    unfold fitB
    rw [hany, if_neg (by decide), hds]
  rw [← hfit]
  cases hf : fitB S pad ds with
  | false => rw [show bI false = 0 from rfl, if_pos rfl, if_neg (by decide), f_X7_rows_236]
  | true =>
    rw [show bI true = 1 from rfl, if_neg (by decide), if_pos rfl]
    by_cases hcx : nI c = x
    · rw [if_pos hcx, if_pos hcx, ← hnum]
      unfold numI
      split
      · rfl
      · split <;> rfl
    · rw [if_neg hcx, if_neg hcx, f_X7_rows_236, nI_1]
theorem m_rows_156 (x : Int32) (c n : Nat) (l4 l5 l6 l7 : Int32) (k14 : Nat → Int32 → Int32 → Int32 → VT → Option (Int32 × VT)) (k22 : Nat → Int32 → Int32 → Int32 → Int32 → VT → Option (Int32 × VT)) {ds : List Nat} (hany : ds.any (fun d => afB (S.1 d)) = true) :
    RwP S pad x M c n l4 ds k22 (fun V => f_X7_rows_156 K P k14 k22 M x (nI c) (nI n) l4 l5 l6 l7 V) V := by
  refine ⟨V, MF.rf, ?_⟩
  have hfit : fitB S pad ds = false := by unfold fitB; rw [hany, if_pos rfl]
  show f_X7_rows_156 K P k14 k22 M x (nI c) (nI n) l4 l5 l6 l7 V = _
  rw [hfit, if_neg (by decide), f_X7_rows_156, f_X7_rows_157, if_pos rfl, f_X7_rows_236]
theorem RwP.cg {x : Int32} {c n : Nat} {l4 : Int32} {ds : List Nat} {k22 : Nat → Int32 → Int32 → Int32 → Int32 → VT → Option (Int32 × VT)} {r1 r2 : VT → Option (Int32 × VT)} (h : RwP S pad x M c n l4 ds k22 r1 V) (e : r2 V = r1 V) : RwP S pad x M c n l4 ds k22 r2 V := by
  obtain ⟨V2, f, e2⟩ := h
  exact ⟨V2, f, e.trans e2⟩
theorem m_rows_1 (hK : MoK K P M) (hw : WfS S) (hS : MoS V M S) (hp : PadM V M pad) (hl : pad.length ≤ 60) (hsp : SgL pad) (x : Int32) (c a : Nat) (l4 : Int32) (k14 : Nat → Int32 → Int32 → Int32 → VT → Option (Int32 × VT)) (k22 : Nat → Int32 → Int32 → Int32 → Int32 → VT → Option (Int32 × VT)) (ha : a < 5) :
    RwP S pad x M c 1 l4 [a] k22 (fun V => f_X7_rows_108 K P k14 k22 M x (nI c) (nI 1) l4 (nI a) (-6) (-6) 1 V) V := by
  have ea := m_isAsAtFirst hK ha (hw.1 a ha) (hS.1 a ha)
  have e1 : f_X7_rows_108 K P k14 k22 M x (nI c) (nI 1) l4 (nI a) (-6) (-6) 1 V = if afB (S.1 a) = true then f_X7_rows_156 K P k14 k22 M x (nI c) (nI 1) l4 (nI a) (-6) (-6) V else f_X7_rows_152 K P k14 k22 M x (nI c) (nI 1) l4 (nI a) (-6) (-6) V := by
    rw [f_X7_rows_108, if_neg (by decide), cV_k hK.1 ea]
    cases afB (S.1 a) with
    | true => rw [show bI true = 1 from rfl, if_neg (by decide), if_pos rfl]
    | false => rw [show bI false = 0 from rfl, if_pos rfl, if_pos (by decide), f_X7_rows_138, if_pos (by decide), if_neg (by decide)]
  cases h : afB (S.1 a) with
  | true =>
    rw [h, if_pos rfl] at e1
    exact (m_rows_156 (K := K) (P := P) (M := M) x c 1 l4 (nI a) (-6) (-6) k14 k22 (ds := [a]) (by simp [h])).cg e1
  | false =>
    rw [h, if_neg (by decide)] at e1
    refine (m_rows_152 hK hw hS hp hl hsp x c 1 a l4 k14 k22 ha (ob := none) (oc := none) (fun _ z => by cases z) (fun _ z => by cases z) (ds := [a]) rfl (by simp [h]) ?_).cg e1
    show (if nI 1 = 1 then 10 + nI a else _) = nI (asN [a])
    rw [if_pos (show nI 1 = 1 from rfl), show (10 : Int32) = nI 10 from rfl, nI_add]; rfl
theorem m_rows_2 (hK : MoK K P M) (hw : WfS S) (hS : MoS V M S) (hp : PadM V M pad) (hl : pad.length ≤ 60) (hsp : SgL pad) (x : Int32) (c a b : Nat) (l4 : Int32) (k14 : Nat → Int32 → Int32 → Int32 → VT → Option (Int32 × VT)) (k22 : Nat → Int32 → Int32 → Int32 → Int32 → VT → Option (Int32 × VT)) (ha : a < 5) (hb : b < 5) :
    RwP S pad x M c 2 l4 [a, b] k22 (fun V => f_X7_rows_108 K P k14 k22 M x (nI c) (nI 2) l4 (nI a) (nI b) (-6) 1 V) V := by
  have ea := m_isAsAtFirst hK ha (hw.1 a ha) (hS.1 a ha)
  have eb := m_isAsAtFirst hK hb (hw.1 b hb) (hS.1 b hb)
  have e1 : f_X7_rows_108 K P k14 k22 M x (nI c) (nI 2) l4 (nI a) (nI b) (-6) 1 V = if (afB (S.1 a) || afB (S.1 b)) = true then f_X7_rows_156 K P k14 k22 M x (nI c) (nI 2) l4 (nI a) (nI b) (-6) V else f_X7_rows_152 K P k14 k22 M x (nI c) (nI 2) l4 (nI a) (nI b) (-6) V := by
    rw [f_X7_rows_108, if_neg (by decide), cV_k hK.1 ea]
    cases afB (S.1 a) with
    | true => rw [show bI true = 1 from rfl, if_neg (by decide), Bool.true_or, if_pos rfl]
    | false =>
      rw [show bI false = 0 from rfl, if_pos rfl, if_neg (nI_pos (by omega)), cV_k hK.1 eb, Bool.false_or]
      cases afB (S.1 b) with
      | true => rw [show bI true = 1 from rfl, if_neg (by decide), if_pos rfl]
      | false => rw [show bI false = 0 from rfl, if_pos rfl, f_X7_rows_138, if_pos (by decide), if_neg (by decide)]
  cases h : (afB (S.1 a) || afB (S.1 b)) with
  | true =>
    rw [h, if_pos rfl] at e1
    exact (m_rows_156 (K := K) (P := P) (M := M) x c 2 l4 (nI a) (nI b) (-6) k14 k22 (ds := [a, b]) (by simpa using h)).cg e1
  | false =>
    rw [h, if_neg (by decide)] at e1
    refine (m_rows_152 hK hw hS hp hl hsp x c 2 a l4 k14 k22 ha (ob := some b) (oc := none) (fun _ z => by cases z; exact hb) (fun _ z => by cases z) (ds := [a, b]) rfl (by simpa using h) ?_).cg e1
    show (if nI 2 = 1 then 10 + nI a else if nI 2 = 2 then (100 + 10 * nI a) + nI b else _) = nI (asN [a, b])
    rw [if_neg (by decide), if_pos (show nI 2 = 2 from rfl), show (100 : Int32) = nI 100 from rfl, show (10 : Int32) = nI 10 from rfl, pk_mul, nI_add, nI_add]
    congr 1
    show 100 + 10 * a + b = (1 * 10 + a) * 10 + b
    omega
theorem m_rows_3 (hK : MoK K P M) (hw : WfS S) (hS : MoS V M S) (hp : PadM V M pad) (hl : pad.length ≤ 60) (hsp : SgL pad) (x : Int32) (c a b d : Nat) (l4 : Int32) (k14 : Nat → Int32 → Int32 → Int32 → VT → Option (Int32 × VT)) (k22 : Nat → Int32 → Int32 → Int32 → Int32 → VT → Option (Int32 × VT)) (ha : a < 5) (hb : b < 5) (hd : d < 5) :
    RwP S pad x M c 3 l4 [a, b, d] k22 (fun V => f_X7_rows_108 K P k14 k22 M x (nI c) (nI 3) l4 (nI a) (nI b) (nI d) 1 V) V := by
  have ea := m_isAsAtFirst hK ha (hw.1 a ha) (hS.1 a ha)
  have eb := m_isAsAtFirst hK hb (hw.1 b hb) (hS.1 b hb)
  have ed := m_isAsAtFirst hK hd (hw.1 d hd) (hS.1 d hd)
  have e1 : f_X7_rows_108 K P k14 k22 M x (nI c) (nI 3) l4 (nI a) (nI b) (nI d) 1 V = if (afB (S.1 a) || (afB (S.1 b) || afB (S.1 d))) = true then f_X7_rows_156 K P k14 k22 M x (nI c) (nI 3) l4 (nI a) (nI b) (nI d) V else f_X7_rows_152 K P k14 k22 M x (nI c) (nI 3) l4 (nI a) (nI b) (nI d) V := by
    rw [f_X7_rows_108, if_neg (by decide), cV_k hK.1 ea]
    cases afB (S.1 a) with
    | true => rw [show bI true = 1 from rfl, if_neg (by decide), Bool.true_or, if_pos rfl]
    | false =>
      rw [show bI false = 0 from rfl, if_pos rfl, if_neg (nI_pos (by omega)), cV_k hK.1 eb, Bool.false_or]
      cases afB (S.1 b) with
      | true => rw [show bI true = 1 from rfl, if_neg (by decide), Bool.true_or, if_pos rfl]
      | false =>
        rw [show bI false = 0 from rfl, if_pos rfl, f_X7_rows_138, if_neg (nI_pos (by omega)), cV_k hK.1 ed, Bool.false_or]
        cases afB (S.1 d) with
        | true => rw [show bI true = 1 from rfl, if_neg (by decide), if_pos rfl]
        | false => rw [show bI false = 0 from rfl, if_pos rfl, if_neg (by decide)]
  cases h : (afB (S.1 a) || (afB (S.1 b) || afB (S.1 d))) with
  | true =>
    rw [h, if_pos rfl] at e1
    exact (m_rows_156 (K := K) (P := P) (M := M) x c 3 l4 (nI a) (nI b) (nI d) k14 k22 (ds := [a, b, d]) (by simpa using h)).cg e1
  | false =>
    rw [h, if_neg (by decide)] at e1
    refine (m_rows_152 hK hw hS hp hl hsp x c 3 a l4 k14 k22 ha (ob := some b) (oc := some d) (fun _ z => by cases z; exact hb) (fun _ z => by cases z; exact hd) (ds := [a, b, d]) rfl (by simpa using h) ?_).cg e1
    show (if nI 3 = 1 then 10 + nI a else if nI 3 = 2 then (100 + 10 * nI a) + nI b else ((1000 + 100 * nI a) + 10 * nI b) + nI d) = nI (asN [a, b, d])
    rw [if_neg (by decide), if_neg (by decide), show (1000 : Int32) = nI 1000 from rfl, show (100 : Int32) = nI 100 from rfl, show (10 : Int32) = nI 10 from rfl, pk_mul, pk_mul, nI_add, nI_add, nI_add]
    congr 1
    show 1000 + 100 * a + 10 * b + d = ((1 * 10 + a) * 10 + b) * 10 + d
    omega
/-- how far the rows have come -/
def ceilK (n l4 : Nat) : Nat := if n = 1 then (l4 + 24) / 25 else if n = 2 then (l4 + 4) / 5 else l4
theorem m_rows_in (hK : MoK K P M) (hw : WfS S) (hl : pad.length ≤ 60) (hsp : SgL pad) {x : Int32} {n : Nat} (hn : n = 1 ∨ n = 2 ∨ n = 3) (k14 : Nat → Int32 → Int32 → Int32 → VT → Option (Int32 × VT)) :
    ∀ (q l4 c : Nat) (fu : Nat) (V : VT), q < fu → l4 + q = 125 → MoS V M S → PadM V M pad →
      ∃ V2, MF M AX JX V V2 ∧ f_X7_rows_22 K P k14 fu M x (nI c) (nI n) (nI l4) V = match rwI S pad x n (5 ^ n - ceilK n l4) (ceilK n l4) c with
        | .inl k2 => some (nI (asN (dgL 5 n k2)), V2)
        | .inr c2 => k14 M x (nI c2) (nI (n + 1)) V2 := by
  intro q
  induction q with
  | zero =>
    intro l4 c fu V hf hl4 hS hp
    obtain ⟨fu, rfl⟩ : ∃ m, fu = m + 1 := ⟨fu - 1, by omega⟩
    have h125 : l4 = 125 := by omega
    subst h125
    have hz : 5 ^ n - ceilK n 125 = 0 := by
      rcases hn with rfl | rfl | rfl <;> decide
    rw [hz]
    refine ⟨V, MF.rf, ?_⟩
    rw [f_X7_rows_22, if_neg (by decide), nI_1]; rfl
  | succ q ih =>
    intro l4 c fu V hf hl4 hS hp
    obtain ⟨fu, rfl⟩ : ∃ m, fu = m + 1 := ⟨fu - 1, by omega⟩
    have hlt : l4 < 125 := by omega
    -- a row looked at
    have look : ∀ (ds : List Nat) (r : VT → Option (Int32 × VT)), ceilK n (l4 + 1) = ceilK n l4 + 1 → ceilK n l4 < 5 ^ n → ds = dgL 5 n (ceilK n l4) → RwP S pad x M c n (nI l4) ds (f_X7_rows_22 K P k14 fu) r V →
        ∃ V2, MF M AX JX V V2 ∧ r V = match rwI S pad x n (5 ^ n - ceilK n l4) (ceilK n l4) c with
        | .inl k2 => some (nI (asN (dgL 5 n k2)), V2)
        | .inr c2 => k14 M x (nI c2) (nI (n + 1)) V2 := by
      intro ds r hc1 hc2 hds ⟨V1, f1, e1⟩
      obtain ⟨m, hm⟩ : ∃ m, 5 ^ n - ceilK n l4 = m + 1 := ⟨5 ^ n - ceilK n l4 - 1, by omega⟩
      have hS1 := hS.mf f1 (by decide) (by decide)
      have hp1 := hp.mf f1 (by decide) (by decide)
      have hm2 : 5 ^ n - ceilK n (l4 + 1) = m := by omega
      rw [e1, hm, hds, nI_1]
      unfold rwI
      cases hfit : fitB S pad (dgL 5 n (ceilK n l4)) with
      | true =>
        rw [if_pos rfl, if_pos rfl]
        by_cases hcx : nI c = x
        · rw [if_pos hcx, if_pos hcx]; exact ⟨V1, f1, rfl⟩
        · rw [if_neg hcx, if_neg hcx]
          obtain ⟨V2, f2, e2⟩ := ih (l4 + 1) (c + 1) fu V1 (by omega) (by omega) hS1 hp1
          rw [hm2, hc1] at e2
          exact ⟨V2, f1.tr f2, e2⟩
      | false =>
        rw [if_neg (by decide), if_neg (by decide)]
        obtain ⟨V2, f2, e2⟩ := ih (l4 + 1) c fu V1 (by omega) (by omega) hS1 hp1
        rw [hm2, hc1] at e2
        exact ⟨V2, f1.tr f2, e2⟩
    -- a row passed over
    have skip : ∀ (l5 l6 l7 : Int32), ceilK n (l4 + 1) = ceilK n l4 →
        ∃ V2, MF M AX JX V V2 ∧ f_X7_rows_108 K P k14 (f_X7_rows_22 K P k14 fu) M x (nI c) (nI n) (nI l4) l5 l6 l7 0 V = match rwI S pad x n (5 ^ n - ceilK n l4) (ceilK n l4) c with
        | .inl k2 => some (nI (asN (dgL 5 n k2)), V2)
        | .inr c2 => k14 M x (nI c2) (nI (n + 1)) V2 := by
      intro l5 l6 l7 hc1
      obtain ⟨V2, f2, e2⟩ := ih (l4 + 1) c fu V (by omega) (by omega) hS hp
      rw [hc1] at e2
      refine ⟨V2, f2, ?_⟩
      rw [f_X7_rows_108, if_pos rfl, f_X7_rows_156, f_X7_rows_157, if_pos rfl, f_X7_rows_236, nI_1, e2]
    rw [f_X7_rows_22, if_pos (show nI l4 < 125 from (nI_ltI (b := 125) (by omega) (by decide)).mpr hlt), dG_k (by decide), nI_div25 l4 (by omega)]
    rcases hn with rfl | rfl | rfl
    · rw [if_neg (by decide), f_X7_rows_52, if_neg (by decide), f_X7_rows_68, if_pos (show nI 1 = 1 from rfl), dG_k (by decide), nI_div25 l4 (by omega), nI_rem25 (by omega)]
      by_cases hr : l4 % 25 = 0
      · rw [if_pos (by rw [hr]; exact nI_0)]
        refine look [l4 / 25] _ (by show (l4 + 1 + 24) / 25 = (l4 + 24) / 25 + 1; omega) (by show (l4 + 24) / 25 < 5 ^ 1; omega) ?_ (m_rows_1 hK hw hS hp hl hsp x c (l4 / 25) (nI l4) k14 _ (by omega))
        show [l4 / 25] = [(l4 + 24) / 25 % 5]
        rw [show (l4 + 24) / 25 % 5 = l4 / 25 by omega]
      · rw [if_neg (nI_ne0 (by omega) (by omega))]
        exact skip _ _ _ (by show (l4 + 1 + 24) / 25 = (l4 + 24) / 25; omega)
    · rw [if_pos (by decide), dG_k (by decide), dG_k (by decide), f_X7_rows_52, if_neg (by decide), f_X7_rows_68, if_neg (by decide), if_neg (by decide), dG_k (by decide), nI_div5 (by omega), nI_div5 (by omega), nI_rem5 (by omega), nI_rem5 (by omega)]
      by_cases hr : l4 % 5 = 0
      · rw [if_pos (by rw [hr]; exact nI_0), f_X7_rows_103]
        refine look [l4 / 25, l4 / 5 % 5] _ (by show (l4 + 1 + 4) / 5 = (l4 + 4) / 5 + 1; omega) (by show (l4 + 4) / 5 < 5 ^ 2; omega) ?_ (m_rows_2 hK hw hS hp hl hsp x c (l4 / 25) (l4 / 5 % 5) (nI l4) k14 _ (by omega) (by omega))
        show [l4 / 25, l4 / 5 % 5] = [(l4 + 4) / 5 / 5 % 5, (l4 + 4) / 5 % 5]
        rw [show (l4 + 4) / 5 / 5 % 5 = l4 / 25 by omega, show (l4 + 4) / 5 % 5 = l4 / 5 % 5 by omega]
      · rw [if_neg (nI_ne0 (by omega) (by omega))]
        exact skip _ _ _ (by show (l4 + 1 + 4) / 5 = (l4 + 4) / 5; omega)
    · rw [if_pos (by decide), dG_k (by decide), dG_k (by decide), f_X7_rows_52, if_pos (by decide), dG_k (by decide), f_X7_rows_68, if_neg (by decide), if_pos (show nI 3 = 3 from rfl), f_X7_rows_103, nI_div5 (by omega), nI_div5 (by omega), nI_rem5 (by omega), nI_rem5 (by omega)]
      refine look [l4 / 25, l4 / 5 % 5, l4 % 5] _ rfl (by show l4 < 5 ^ 3; omega) ?_ (m_rows_3 hK hw hS hp hl hsp x c (l4 / 25) (l4 / 5 % 5) (l4 % 5) (nI l4) k14 _ (by omega) (by omega) (by omega))
      show [l4 / 25, l4 / 5 % 5, l4 % 5] = [l4 / 5 / 5 % 5, l4 / 5 % 5, l4 % 5]
      rw [show l4 / 5 / 5 % 5 = l4 / 25 by omega]
theorem m_rows_out (hK : MoK K P M) (hw : WfS S) (hl : pad.length ≤ 60) (hsp : SgL pad) {x : Int32} :
    ∀ (q n c : Nat) (fu : Nat) (V : VT), q < fu → 1 ≤ n → n + q = 4 → MoS V M S → PadM V M pad → ∃ V2, MF M AX JX V V2 ∧ f_X7_rows_14 K P fu M x (nI c) (nI n) V = some (rwO S pad x q n c, V2) := by
  intro q
  induction q with
  | zero =>
    intro n c fu V hf h1 hn hS hp
    obtain ⟨fu, rfl⟩ : ∃ m, fu = m + 1 := ⟨fu - 1, by omega⟩
    refine ⟨V, MF.rf, ?_⟩
    rw [f_X7_rows_14, show n = 4 by omega, if_neg (by decide)]
    show _ = some ((if x = -1 then nI c else -6), V)
    split <;> rfl
  | succ q ih =>
    intro n c fu V hf h1 hn hS hp
    obtain ⟨fu, rfl⟩ : ∃ m, fu = m + 1 := ⟨fu - 1, by omega⟩
    have hn3 : n = 1 ∨ n = 2 ∨ n = 3 := by omega
    obtain ⟨V2, f2, e2⟩ := m_rows_in hK hw hl hsp (x := x) hn3 (f_X7_rows_14 K P fu) 125 0 c FU V (FU_lt (by omega)) (by omega) hS hp
    have hc0 : ceilK n 0 = 0 := by rcases hn3 with rfl | rfl | rfl <;> rfl
    rw [hc0, Nat.sub_zero, nI_0] at e2
    rw [f_X7_rows_14, if_pos (show nI n < 4 from (nI_ltI (b := 4) (by omega) (by decide)).mpr (by omega)), e2]
    unfold rwO
    cases hs : rwI S pad x n (5 ^ n) 0 c with
    | inl k => exact ⟨V2, f2, rfl⟩
    | inr c2 =>
      obtain ⟨V3, f3, e3⟩ := ih (n + 1) c2 fu V2 (by omega) (by omega) (by omega) (hS.mf f2 (by decide) (by decide)) (hp.mf f2 (by decide) (by decide))
      exact ⟨V3, f2.tr f3, e3⟩
theorem e_rows (hK : ClsK K P B) (x : Int32) : Eq2 B (fun V => f_X6_rows K P B x V) (fun V => f_X7_rows K P (B + 88) x V) := by
  intro V pad S h
  show ∃ r V1 V2, f_X6_rows K P B x V = _ ∧ f_X7_rows K P (B + 88) x V1 = _ ∧ _
  have hl := h.lp
  have hs := row_size hK.r0 h.c.pad
  by_cases h0 : pad.length = 0
  · refine ⟨-3, V, V, ?_, ?_, pad, S, h⟩
    · rw [f_X6_rows, gR_k hK.k hK.p0, cV_k hK.r0.1 hs, h0, if_pos nI_0]
    · rw [f_X7_rows, gI_k hK.mo.1, h.mp.1, h0, if_pos nI_0]
  · obtain ⟨V1, q1, e1⟩ := c_rows_out hK h.wf hl (x := x) 3 1 0 FU V (FU_lt (by omega)) (by omega) h.c
    have hV1 := h.q q1
    obtain ⟨V2, f2, e2⟩ := m_rows_out hK.mo h.wf hl h.sp (x := x) 3 1 0 FU V1 (FU_lt (by omega)) (by omega) (by omega) hV1.ms hV1.mp
    rw [nI_0] at e1 e2
    refine ⟨rwO S pad x 3 1 0, V1, V2, ?_, ?_, h.ask q1 f2⟩
    · rw [f_X6_rows, gR_k hK.k hK.p0, cV_k hK.r0.1 hs, if_neg (nI_ne0 (by omega) (by omega))]; exact e1
    · rw [f_X7_rows, gI_k hK.mo.1, hV1.mp.1, if_neg (nI_ne0 (by omega) (by omega))]; exact e2
end ROWM2
