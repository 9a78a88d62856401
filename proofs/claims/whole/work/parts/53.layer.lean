/-! PURE PART, 4: a layer: mark, way, mask, held -/
abbrev LayT : Type := Int32 × Int32 × Int32 × List Int32
def LayK (K : KT) (P : PT) (a : Nat) : Prop := K a = some (.inl 0) ∧ P a 3 = some (a + 1) ∧ RowK K P (a + 1) 6
def LayV (V : VT) (a : Nat) (y : LayT) : Prop := V a 0 = y.1 ∧ V a 1 = y.2.1 ∧ V a 2 = y.2.2.1 ∧ RowV V (a + 1) 6 y.2.2.2 0
theorem LayV.fr {V V2 : VT} {a lo hi : Nat} {y : LayT} (h : LayV V a y) (hf : Fr lo hi V V2) (hr : a + 3 ≤ lo ∨ hi ≤ a) : LayV V2 a y := by
  obtain ⟨h1, h2, h3, h4⟩ := h
  have e : V2 a = V a := hf a (by omega)
  exact ⟨by rw [e]; exact h1, by rw [e]; exact h2, by rw [e]; exact h3, h4.fr hf (by omega)⟩
/-- a row that may be over: out is what was put in all -/
def RowC (V : VT) (r N : Nat) (out : List Int32) : Prop := RowV V r N (out.take N) (bI (decide (N < out.length)))
theorem RowC.fr {V V2 : VT} {r N lo hi : Nat} {l : List Int32} (h : RowC V r N l) (hf : Fr lo hi V V2) (hr : r + 2 ≤ lo ∨ hi ≤ r) : RowC V2 r N l := RowV.fr h hf hr
theorem rowC_add {K : KT} {P : PT} {V : VT} {r N : Nat} {out : List Int32} (hN : N < 2 ^ 31) (hK : RowK K P r N) (h : RowC V r N out) (x : Int32) : ∃ V2, f_X4_add K P r x V = some ((), V2) ∧ RowC V2 r N (out ++ [x]) ∧ Fr r (r + 2) V V2 := by
  by_cases hl : out.length < N
  · unfold RowC at h
    rw [decide_eq_false (by omega), List.take_of_length_le (by omega)] at h
    obtain ⟨V2, e2, h2, f2⟩ := row_add hN hK h hl x
    refine ⟨V2, e2, ?_, f2⟩
    unfold RowC
    rw [decide_eq_false (by simp; omega), List.take_of_length_le (by simp; omega)]
    exact h2
  · obtain ⟨V2, e2, h2, f2⟩ := row_addOver hN hK h (by rw [List.length_take]; omega) x
    refine ⟨V2, e2, ?_, f2⟩
    unfold RowC
    rw [decide_eq_true (by simp; omega), List.take_append_of_le_length (by omega)]
    exact h2
def msk (y : LayT) (s : Int32) : Bool := decide (s = y.1) || (decide (s = y.2.2.1) || decide (s ∈ y.2.2.2))
def dgt (v : Int32) : Int32 := if v < 10 then 48 + v else 97 + v - 10
def mkL (y : LayT) : List Int32 := if y.1 = -6 then [] else [y.1]
def enc1 (y : LayT) (s : Int32) : List Int32 := if y.2.1 = 3 then [y.2.2.1, dgt (s >>> ((4 : Int32) &&& 31)), dgt (s &&& 15)] else if y.2.1 = 1 then [y.2.2.1, s] else [y.1, s]
def encT (y : LayT) (fg : Bool) : List Int32 → Option (List Int32)
  | [] => some []
  | s :: t => if (!fg && msk y s) = true then (if y.2.1 = 0 then none else (encT y fg t).map (enc1 y s ++ ·)) else (encT y fg t).map (s :: ·)
def putL (y : LayT) (fg : Bool) (t : List Int32) : Option (List Int32) := (encT y fg t).map (fun b => mkL y ++ b ++ mkL y)
section LAY
variable {K : KT} {P : PT} {V : VT} {a r : Nat} {y : LayT} {out : List Int32}
theorem lay_means (hK : LayK K P a) (hV : LayV V a y) (s : Int32) : f_X1_meansSomething K P a s V = some (bI (msk y s), V) := by
  obtain ⟨k1, k2, k3⟩ := hK
  obtain ⟨v1, v2, v3, v4⟩ := hV
  have ha := row_hasAhead (by decide) k3 v4 s (e := 6) (by decide)
  rw [List.take_of_length_le v4.2.1, show nI 6 = 6 from rfl] at ha
  unfold f_X1_meansSomething f_X1_meansSomething_29 msk
  rw [gI_k k1, v1]
  by_cases h1 : s = y.1
  · rw [if_pos h1, decide_eq_true h1]; rfl
  · rw [if_neg h1, decide_eq_false h1, gI_k k1, v3]
    by_cases h2 : s = y.2.2.1
    · rw [if_pos h2, decide_eq_true h2]; rfl
    · rw [if_neg h2, decide_eq_false h2, gR_k k1 k2, cV_k k3.1 ha]
      cases decide (s ∈ y.2.2.2) <;> rfl
theorem q_digitOf (v : Int32) (V : VT) : f_X1_digitOf K P v V = some (dgt v, V) := by
  unfold f_X1_digitOf dgt
  split <;> rfl
theorem lay_addMark (hK : LayK K P a) (hV : LayV V a y) (hKr : RowK K P r 400) (hr : RowC V r 400 out) : ∃ V2, f_X1_addMark K P a r V = some ((), V2) ∧ RowC V2 r 400 (out ++ mkL y) ∧ Fr r (r + 2) V V2 := by
  obtain ⟨k1, k2, k3⟩ := hK
  obtain ⟨v1, v2, v3, v4⟩ := hV
  unfold f_X1_addMark mkL
  rw [gI_k k1, v1]
  by_cases h : y.1 = -6
  · rw [if_pos h, if_pos h, List.append_nil]; exact ⟨V, rfl, hr, Fr.rf⟩
  · rw [if_neg h, if_neg h, gI_k k1, v1]
    obtain ⟨V2, e2, h2, f2⟩ := rowC_add (by decide) hKr hr y.1
    exact ⟨V2, by rw [cV_k hKr.1 e2], h2, f2⟩
theorem lay_putMasked (hK : LayK K P a) (hV : LayV V a y) (hKr : RowK K P r 400) (hr : RowC V r 400 out) (hd : a + 3 ≤ r ∨ r + 2 ≤ a) (s : Int32) : ∃ V2, f_X1_putMasked K P a s r V = some ((), V2) ∧ RowC V2 r 400 (out ++ enc1 y s) ∧ Fr r (r + 2) V V2 := by
  obtain ⟨k1, k2, k3⟩ := hK
  obtain ⟨v1, v2, v3, v4⟩ := hV
  have h60 : ∀ x : Int32, ∃ V2, f_X1_putMasked_60 K P s r r x V = some ((), V2) ∧ RowC V2 r 400 (out ++ [x, s]) ∧ Fr r (r + 2) V V2 := by
    intro x
    obtain ⟨V2, e2, h2, f2⟩ := rowC_add (by decide) hKr hr x
    obtain ⟨V3, e3, h3, f3⟩ := rowC_add (by decide) hKr h2 s
    refine ⟨V3, by rw [f_X1_putMasked_60, cV_k hKr.1 e2, cV_k hKr.1 e3], ?_, f2.tr f3⟩
    rw [List.append_assoc] at h3; exact h3
  unfold f_X1_putMasked enc1
  rw [gI_k k1, v2]
  by_cases h3 : y.2.1 = 3
  · rw [if_pos h3, if_pos h3, gI_k k1, v3]
    obtain ⟨V2, e2, h2, f2⟩ := rowC_add (by decide) hKr hr y.2.2.1
    obtain ⟨V3, e3, h3, f3⟩ := rowC_add (by decide) hKr h2 (dgt (s >>> ((4 : Int32) &&& 31)))
    obtain ⟨V4, e4, h4, f4⟩ := rowC_add (by decide) hKr h3 (dgt (s &&& 15))
    refine ⟨V4, by rw [cV_k hKr.1 e2, cS_k (q_digitOf _ _), cV_k hKr.1 e3, cS_k (q_digitOf _ _), cV_k hKr.1 e4], ?_, (f2.tr f3).tr f4⟩
    rw [List.append_assoc, List.append_assoc] at h4; exact h4
  · rw [if_neg h3, if_neg h3, gI_k k1, v2]
    by_cases h1 : y.2.1 = 1
    · rw [if_pos h1, if_pos h1, gI_k k1, v3]; exact h60 _
    · rw [if_neg h1, if_neg h1, gI_k k1, v1]; exact h60 _
/-- what a put answers, and leaves -/
def PutP (V2 : VT) (r : Nat) (x : Option (List Int32)) (res : Int32) : Prop := match x with
  | none => res = -5
  | some o => if 400 < o.length then res = -7 else res = nI o.length ∧ RowV V2 r 400 o 0
theorem lay_put_loop {q M : Nat} {t : List Int32} {oq : Int32} (hK : LayK K P a) (hKr : RowK K P r 400) (hM : M < 1000) (hKq : RowK K P q M) (hd : a + 3 ≤ r ∨ r + 2 ≤ a) (hdq : q + 2 ≤ r ∨ r + 2 ≤ q) (fg : Bool) :
    ∀ (n i : Nat) (V : VT) (out : List Int32), t.length - i < n → i ≤ t.length → LayV V a y → RowV V q M t oq → RowC V r 400 out →
      ∃ V2 res, f_X1_put_12 K P n a q r (bI fg) (nI i) V = some (res, V2) ∧ PutP V2 r ((encT y fg (t.drop i)).map (fun b => out ++ b ++ mkL y)) res ∧ Fr r (r + 2) V V2 := by
  intro n
  induction n with
  | zero => intro i V out h; omega
  | succ n ih =>
    intro i V out hn hi hV hq hr
    have ht := hq.2.1
    rw [f_X1_put_12, cV_k hKq.1 (row_size hKq hq)]
    by_cases h : i < t.length
    · rw [if_pos ((nI_ltI (by omega) (by omega)).mpr h), cV_k hKq.1 (row_atn (by omega) hKq hq (by omega)), drop_next h (-6)]
      generalize hs : t.getD i (-6) = s
      -- put as it stands
      have plain : ∃ V2 res, cV K r 2 (f_X4_add K P r s V) (fun _ V3 => f_X1_put_85 K P (f_X1_put_12 K P n) a q r (bI fg) (nI i) V3) = some (res, V2) ∧ PutP V2 r (((encT y fg (t.drop (i + 1))).map (s :: ·)).map (fun b => out ++ b ++ mkL y)) res ∧ Fr r (r + 2) V V2 := by
        obtain ⟨V2, e2, h2, f2⟩ := rowC_add (by decide) hKr hr s
        obtain ⟨V3, res, e3, h3, f3⟩ := ih (i + 1) V2 (out ++ [s]) (by omega) (by omega) (hV.fr f2 (by omega)) (hq.fr f2 (by omega)) h2
        refine ⟨V3, res, by rw [cV_k hKr.1 e2, f_X1_put_85, nI_1, e3], ?_, f2.tr f3⟩
        rw [Option.map_map]
        have : ((fun b => out ++ b ++ mkL y) ∘ fun x => s :: x) = fun b => out ++ [s] ++ b ++ mkL y := by
          funext b; simp
        rw [this]; exact h3
      unfold encT
      cases fg with
      | true =>
        rw [show bI true = 1 from rfl, if_neg (by decide), if_neg (by simp), f_X1_put_42, f_X1_put_47, if_neg (by decide), f_X1_put_64, if_neg (by decide)]
        exact plain
      | false =>
        rw [show bI false = 0 from rfl, if_pos rfl, cV_k hK.1 (lay_means hK hV s)]
        cases hm : msk y s with
        | false =>
          rw [show bI false = 0 from rfl, if_pos rfl, if_neg (by decide), f_X1_put_42, f_X1_put_47, if_neg (by decide), f_X1_put_64, if_neg (by decide)]
          exact plain
        | true =>
          rw [if_neg (by decide), if_pos (by decide), f_X1_put_47, if_pos rfl, gI_k hK.1, hV.2.1]
          by_cases hw : y.2.1 = 0
          · rw [if_pos hw, if_pos hw]
            exact ⟨V, -5, rfl, rfl, Fr.rf⟩
          · rw [if_neg hw, if_neg hw, f_X1_put_64, if_pos rfl]
            obtain ⟨V2, e2, h2, f2⟩ := lay_putMasked hK hV hKr hr hd s
            obtain ⟨V3, res, e3, h3, f3⟩ := ih (i + 1) V2 (out ++ enc1 y s) (by omega) (by omega) (hV.fr f2 (by omega)) (hq.fr f2 (by omega)) h2
            refine ⟨V3, res, by rw [cV_k hK.1 e2, f_X1_put_85, nI_1]; exact e3, ?_, f2.tr f3⟩
            rw [Option.map_map]
            have : ((fun b => out ++ b ++ mkL y) ∘ fun x => enc1 y s ++ x) = fun b => out ++ enc1 y s ++ b ++ mkL y := by
              funext b; simp
            rw [this]; exact h3
    · rw [if_neg (fun z => h ((nI_ltI (by omega) (by omega)).mp z)), List.drop_eq_nil_of_le (by omega)]
      obtain ⟨V2, e2, h2, f2⟩ := lay_addMark hK hV hKr hr
      rw [cV_k hK.1 e2, cV_k hKr.1 (row_isOver hKr h2)]
      have hx : (encT y fg []).map (fun b => out ++ b ++ mkL y) = some (out ++ mkL y) := by simp [encT]
      rw [hx]
      by_cases ho : 400 < (out ++ mkL y).length
      · refine ⟨V2, -7, ?_, ?_, f2⟩
        · rw [decide_eq_true ho, if_neg (by decide)]
        · show (if _ then _ else _); rw [if_pos ho]
      · unfold RowC at h2
        rw [decide_eq_false ho, List.take_of_length_le (by omega)] at h2
        refine ⟨V2, nI (out ++ mkL y).length, ?_, ?_, f2⟩
        · rw [decide_eq_false ho, show bI false = 0 from rfl, if_pos rfl, cV_k hKr.1 (row_size hKr h2)]
        · show (if _ then _ else _); rw [if_neg ho]; exact ⟨rfl, h2⟩
theorem lay_put {q M : Nat} {t : List Int32} {oq : Int32} (hK : LayK K P a) (hV : LayV V a y) (hKr : RowK K P r 400) (hM : M < 1000) (hKq : RowK K P q M) (hq : RowV V q M t oq) (hd : a + 3 ≤ r ∨ r + 2 ≤ a) (hdq : q + 2 ≤ r ∨ r + 2 ≤ q) (fg : Bool) :
    ∃ V2 res, f_X1_put K P a q r (bI fg) V = some (res, V2) ∧ PutP V2 r (putL y fg t) res ∧ Fr r (r + 2) V V2 := by
  obtain ⟨V1, e1, h1, f1⟩ := row_clear hKr V
  have c1 : RowC V1 r 400 [] := h1
  obtain ⟨V2, e2, h2, f2⟩ := lay_addMark hK (hV.fr f1 (by omega)) hKr c1
  rw [List.nil_append] at h2
  obtain ⟨V3, res, e3, h3, f3⟩ := lay_put_loop hK hKr hM hKq hd hdq fg FU 0 V2 (mkL y) (FU_lt (by have := hq.2.1; omega)) (by omega) ((hV.fr f1 (by omega)).fr f2 (by omega)) ((hq.fr f1 (by omega)).fr f2 (by omega)) h2
  rw [nI_0] at e3
  rw [List.drop_zero] at h3
  exact ⟨V3, res, by rw [f_X1_put, cV_k hKr.1 e1, cV_k hK.1 e2, e3], h3, (f1.tr f2).tr f3⟩
/-! reading -/
def endsB (y : LayT) (t : List Int32) (i : Nat) : Bool := decide (t.getD i (-6) = y.1) && !(decide (y.2.1 = 2) && decide (t.getD (i + 1) (-6) = y.1))
def m97 (c : Int32) : Int32 := if isSg c = true then c else -6
def meant (y : LayT) (t : List Int32) (i : Nat) : Int32 :=
  if t.getD i (-6) = y.2.2.1 then
    (if y.2.1 = 1 then t.getD (i + 1) (-6)
     else if vdg (t.getD (i + 1) (-6)) < 0 then -6 else if vdg (t.getD (i + 2) (-6)) < 0 then -6 else m97 (vdg (t.getD (i + 1) (-6)) * 16 + vdg (t.getD (i + 2) (-6))))
  else if t.getD i (-6) ∈ y.2.2.2 then -6 else t.getD i (-6)
def wid (y : LayT) (s : Int32) : Nat := if s = y.2.2.1 then (if y.2.1 = 1 then 2 else 3) else if s = y.1 then 2 else 1
def rdE (y : LayT) (t : List Int32) : Int32 := if y.1 = -6 then -6 else nI t.length
def rdL (y : LayT) (t : List Int32) : Nat → Nat → List Int32 → Int32 × List Int32
  | 0, _, acc => (rdE y t, acc)
  | n + 1, i, acc =>
    if i < t.length then
      (if endsB y t i = true then ((if i + 1 < t.length then nI (i + 1) else -6), acc)
       else if meant y t i = -6 then (nI i, acc)
       else rdL y t n (i + wid y (t.getD i (-6))) (acc ++ [meant y t i]))
    else (rdE y t, acc)
def takeOffL (y : LayT) (t : List Int32) : Int32 × List Int32 :=
  if y.1 = -6 then rdL y t 400 0 [] else if t.getD 0 (-6) = y.1 then rdL y t 400 1 [] else (0, [])
variable {q M : Nat} {t : List Int32} {oq : Int32}
theorem lay_endsAt (hK : LayK K P a) (hV : LayV V a y) (hM : M < 1000) (hKq : RowK K P q M) (hq : RowV V q M t oq) {i : Nat} (hi : i < 10000) : f_X1_endsAt K P a q (nI i) V = some (bI (endsB y t i), V) := by
  obtain ⟨k1, k2, k3⟩ := hK
  obtain ⟨v1, v2, v3, v4⟩ := hV
  unfold f_X1_endsAt f_X1_endsAt_34 endsB
  rw [cV_k hKq.1 (row_atn (by omega) hKq hq (by omega)), gI_k k1, v1]
  by_cases h : t.getD i (-6) = y.1
  · rw [if_pos h, decide_eq_true h, gI_k k1, v2]
    by_cases h2 : y.2.1 = 2
    · rw [if_pos h2, decide_eq_true h2, nI_1, cV_k hKq.1 (row_atn (by omega) hKq hq (by omega)), gI_k k1, v1]
      by_cases h3 : t.getD (i + 1) (-6) = y.1
      · rw [if_pos h3, decide_eq_true h3]; rfl
      · rw [if_neg h3, decide_eq_false h3]; rfl
    · rw [if_neg h2, decide_eq_false h2]; rfl
  · rw [if_neg h, decide_eq_false h]; rfl
theorem lay_m97 (c : Int32) (V : VT) : f_X1_meantAt_97 K P c V = some (m97 c, V) := by
  rw [f_X1_meantAt_97, cS_k (q_isSg c V)]
  unfold m97
  cases isSg c <;> rfl
theorem lay_meantAt (hK : LayK K P a) (hV : LayV V a y) (hM : M < 1000) (hKq : RowK K P q M) (hq : RowV V q M t oq) {i : Nat} (hi : i < 10000) : f_X1_meantAt K P a q (nI i) V = some (meant y t i, V) := by
  obtain ⟨k1, k2, k3⟩ := hK
  obtain ⟨v1, v2, v3, v4⟩ := hV
  unfold f_X1_meantAt f_X1_meantAt_84 meant
  rw [cV_k hKq.1 (row_atn (by omega) hKq hq (by omega)), gI_k k1, v3]
  by_cases h : t.getD i (-6) = y.2.2.1
  · rw [if_pos h, if_pos h, gI_k k1, v2, nI_1]
    by_cases h1 : y.2.1 = 1
    · rw [if_pos h1, if_pos h1, cV_k hKq.1 (row_atn (by omega) hKq hq (by omega))]
    · rw [if_neg h1, if_neg h1, cV_k hKq.1 (row_atn (by omega) hKq hq (by omega)), cS_k (q_vdg _ V), show (2 : Int32) = nI 2 from rfl, nI_add, cV_k hKq.1 (row_atn (by omega) hKq hq (by omega)), cS_k (q_vdg _ V)]
      split
      · rw [lay_m97]; rfl
      · split
        · rw [lay_m97]; rfl
        · rw [lay_m97]
  · have ha := row_hasAhead (by decide) k3 v4 (t.getD i (-6)) (e := 6) (by decide)
    rw [List.take_of_length_le v4.2.1, show nI 6 = 6 from rfl] at ha
    rw [if_neg h, if_neg h, gR_k k1 k2, cV_k k3.1 ha]
    by_cases hm : t.getD i (-6) ∈ y.2.2.2
    · rw [decide_eq_true hm, if_neg (by decide), if_pos hm]
    · rw [decide_eq_false hm, if_pos (by decide), if_neg hm]
theorem lay_widthOf (hK : LayK K P a) (hV : LayV V a y) (s : Int32) : f_X1_widthOf K P a s V = some (nI (wid y s), V) := by
  obtain ⟨k1, k2, k3⟩ := hK
  obtain ⟨v1, v2, v3, v4⟩ := hV
  unfold f_X1_widthOf wid
  rw [gI_k k1, v3]
  by_cases h : s = y.2.2.1
  · rw [if_pos h, if_pos h, gI_k k1, v2]
    split <;> rfl
  · rw [if_neg h, if_neg h, gI_k k1, v1]
    split <;> rfl
theorem lay_take_end (hK : LayK K P a) (hV : LayV V a y) (hKq : RowK K P q M) (hq : RowV V q M t oq) : f_X1_takeOff_130 K P a q V = some (rdE y t, V) := by
  unfold f_X1_takeOff_130 rdE
  rw [gI_k hK.1, hV.1]
  split
  · rfl
  · rw [cV_k hKq.1 (row_size hKq hq)]
theorem wid_pos (y : LayT) (s : Int32) : 0 < wid y s ∧ wid y s ≤ 3 := by
  unfold wid; split
  · split <;> omega
  · split <;> omega
theorem lay_take_loop (hK : LayK K P a) (hKr : RowK K P r 400) (hM : M ≤ 400) (hKq : RowK K P q M) (hd : a + 3 ≤ r ∨ r + 2 ≤ a) (hdq : q + 2 ≤ r ∨ r + 2 ≤ q) :
    ∀ (n k i : Nat) (V : VT) (acc : List Int32), k < n → k ≤ 400 → i < 10000 - 3 * k → acc.length + k ≤ 400 → LayV V a y → RowV V q M t oq → RowV V r 400 acc 0 →
      ∃ V2, f_X1_takeOff_45 K P n a q r (nI i) (nI (400 - k)) V = some ((rdL y t k i acc).1, V2) ∧ RowV V2 r 400 (rdL y t k i acc).2 0 ∧ Fr r (r + 2) V V2 := by
  intro n
  induction n with
  | zero => intro k i V acc h; omega
  | succ n ih =>
    intro k i V acc hn hk hi ha hV hq hr
    have ht := hq.2.1
    rw [f_X1_takeOff_45, cV_k hKq.1 (row_size hKq hq)]
    cases k with
    | zero =>
      unfold rdL
      refine ⟨V, ?_, hr, Fr.rf⟩
      by_cases h : i < t.length
      · rw [if_pos ((nI_ltI (by omega) (by omega)).mpr h), if_neg (by decide), lay_take_end hK hV hKq hq]
      · rw [if_neg (fun z => h ((nI_ltI (by omega) (by omega)).mp z)), lay_take_end hK hV hKq hq]
    | succ k =>
      unfold rdL
      by_cases h : i < t.length
      · rw [if_pos ((nI_ltI (by omega) (by omega)).mpr h), show (400 : Int32) = nI 400 from rfl, if_pos ((nI_ltI (by omega) (by omega)).mpr (by omega)), if_pos h, cV_k hK.1 (lay_endsAt hK hV (by omega) hKq hq (by omega))]
        cases endsB y t i with
        | true =>
          rw [if_neg (by decide), if_pos rfl, cV_k hKq.1 (row_size hKq hq), nI_1]
          refine ⟨V, ?_, hr, Fr.rf⟩
          by_cases h2 : i + 1 < t.length
          · rw [if_pos ((nI_ltI (by omega) (by omega)).mpr h2), if_pos h2]
          · rw [if_neg (fun z => h2 ((nI_ltI (by omega) (by omega)).mp z)), if_neg h2]
        | false =>
          rw [if_pos (by decide), if_neg (by decide), cV_k hK.1 (lay_meantAt hK hV (by omega) hKq hq (by omega))]
          by_cases hm : meant y t i = -6
          · rw [if_pos hm, if_pos hm]; exact ⟨V, rfl, hr, Fr.rf⟩
          · rw [if_neg hm, if_neg hm]
            obtain ⟨V2, e2, h2, f2⟩ := row_add (by decide) hKr hr (by omega) (meant y t i)
            have hV2 := hV.fr f2 (by omega)
            have hq2 := hq.fr f2 (by omega)
            have hw := wid_pos y (t.getD i (-6))
            obtain ⟨V3, e3, h3, f3⟩ := ih k (i + wid y (t.getD i (-6))) V2 (acc ++ [meant y t i]) (by omega) (by omega) (by omega) (by rw [List.length_append]; simp; omega) hV2 hq2 h2
            refine ⟨V3, ?_, h3, f2.tr f3⟩
            rw [cV_k hKr.1 e2, cV_k hKq.1 (row_atn (by omega) hKq hq2 (by omega)), cV_k hK.1 (lay_widthOf hK hV2 _), nI_add, nI_1, show 400 - (k + 1) + 1 = 400 - k by omega, e3]
      · refine ⟨V, ?_, ?_, Fr.rf⟩
        · rw [if_neg (fun z => h ((nI_ltI (by omega) (by omega)).mp z)), if_neg h, lay_take_end hK hV hKq hq]
        · rw [if_neg h]; exact hr
theorem lay_takeOff (hK : LayK K P a) (hV : LayV V a y) (hKr : RowK K P r 400) (hM : M ≤ 400) (hKq : RowK K P q M) (hq : RowV V q M t oq) (hd : a + 3 ≤ r ∨ r + 2 ≤ a) (hdq : q + 2 ≤ r ∨ r + 2 ≤ q) :
    ∃ V2, f_X1_takeOff K P a q r V = some ((takeOffL y t).1, V2) ∧ RowV V2 r 400 (takeOffL y t).2 0 ∧ Fr r (r + 2) V V2 := by
  obtain ⟨V1, e1, h1, f1⟩ := row_clear hKr V
  have hV1 := hV.fr f1 (by omega)
  have hq1 := hq.fr f1 (by omega)
  have go : ∀ i, i < 2 → ∃ V2, f_X1_takeOff_41 K P a q r (nI i) V1 = some ((rdL y t 400 i []).1, V2) ∧ RowV V2 r 400 (rdL y t 400 i []).2 0 ∧ Fr r (r + 2) V1 V2 := by
    intro i hi
    have := lay_take_loop hK hKr hM hKq hd hdq FU 400 i V1 [] (FU_lt (by omega)) (by omega) (by omega) (by simp) hV1 hq1 h1
    rw [f_X1_takeOff_41]
    exact this
  have a0 := row_atn (by omega) hKq hq1 (j := 0) (by omega)
  rw [nI_0] at a0
  unfold f_X1_takeOff takeOffL
  rw [cV_k hKr.1 e1, gI_k hK.1, hV1.1]
  have g0 := go 0 (by omega)
  have g1 := go 1 (by omega)
  rw [nI_0] at g0
  rw [show nI 1 = 1 from rfl] at g1
  by_cases h : y.1 = -6
  · rw [if_pos h, if_pos h, f_X1_takeOff_27, gI_k hK.1, hV1.1, if_pos h]
    obtain ⟨V2, e2, h2, f2⟩ := g0
    exact ⟨V2, e2, h2, f1.tr f2⟩
  · rw [if_neg h, if_neg h, cV_k hKq.1 a0, gI_k hK.1, hV1.1]
    by_cases h2 : t.getD 0 (-6) = y.1
    · rw [if_pos h2, if_pos h2, f_X1_takeOff_27, gI_k hK.1, hV1.1, if_neg h]
      obtain ⟨V2, e2, h2, f2⟩ := g1
      exact ⟨V2, e2, h2, f1.tr f2⟩
    · rw [if_neg h2, if_neg h2]
      exact ⟨V1, rfl, h1, f1⟩
end LAY
