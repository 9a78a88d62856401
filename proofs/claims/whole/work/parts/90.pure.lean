/-! PURE PART, 30: the law, over all that is asked -/
theorem sX_n {β : Type} {xs : Nat → Int32} {L i : Nat} (h : i < L) (hL : L ≤ 1536) (F : Int32 → Option β) : sX xs L (nI i) F = F (xs i) := by
  unfold sX
  rw [nI_clamp (show i < 2 ^ 31 by omega), if_pos ⟨Int32.not_lt.mp (nI_pos (by omega)), h⟩]
theorem law_stop {L i : Nat} (hL : L ≤ 1536) (hi : i ≤ 3000) (h : ¬ nI L - 3 < nI i) : i + 3 ≤ L := by
  have e : (nI L - 3).toInt = (L : Int) - 3 := by
    rw [Int32.toInt_sub, nI_toInt (by omega), show (3 : Int32).toInt = 3 by decide]
    apply Int.bmod_eq_of_le <;> omega
  have := Int32.le_iff_toInt_le.mp (Int32.not_lt.mp h)
  rw [e, nI_toInt (by omega)] at this
  omega
theorem law_loop {K : KT} {P : PT} {B b L : Nat} {xs : Nat → Int32} (hK : ClsK K P B) (hL : L ≤ 1536) :
    ∀ (n i : Nat) (V : VT) (pad : List Int32) (S : StT), L - i < n → i ≤ 2000 → Inv B V pad S → ∃ V2, f_L_18 K P xs L n b B (B + 88) (nI i) V = some (1, V2) := by
  intro n
  induction n with
  | zero => intro i V pad S h; omega
  | succ n ih =>
    intro i V pad S hn hi h
    show ∃ V2, f_L_body K P xs L (f_L_18 K P xs L n) b B (B + 88) (nI i) V = some (1, V2)
    rw [f_L_body]
    by_cases hs : nI L - 3 < nI i
    · rw [if_pos hs]; exact ⟨V, rfl⟩
    · have hi3 := law_stop hL (by omega) hs
      have go : ∀ (V2 : VT) (pad2 : List Int32) (S2 : StT), Inv B V2 pad2 S2 → ∃ V3, f_L_612 (f_L_18 K P xs L n) b B (B + 88) (nI i) V2 = some (1, V3) := by
        intro V2 pad2 S2 h2
        rw [f_L_612, show (3 : Int32) = nI 3 from rfl, nI_add]
        exact ih (i + 3) V2 pad2 S2 (by omega) (by omega) h2
      have s1 : ∀ F : Int32 → Option (Int32 × VT), sX xs L (nI i + 1) F = F (xs (i + 1)) := fun F => by rw [nI_1]; exact sX_n (by omega) hL F
      have s2 : ∀ F : Int32 → Option (Int32 × VT), sX xs L (nI i + 2) F = F (xs (i + 2)) := fun F => by
        rw [show (2 : Int32) = nI 2 from rfl, nI_add]; exact sX_n (by omega) hL F
      rw [if_neg hs, sX_n (by omega) hL]
      by_cases q0 : (xs i &&& 31) = 0
      · obtain ⟨r, V1, V2, e1, e2, pad2, S2, h2⟩ := e_say hK (xs (i + 1)) V pad S h
        rw [if_pos q0, f_L_c0, s1, cV_k hK.k e1, s1, cV_k hK.mo.1 e2, if_pos rfl]
        exact go V2 pad2 S2 h2
      rw [if_neg q0]
      by_cases q1 : (xs i &&& 31) = 1
      · obtain ⟨r, V1, V2, e1, e2, pad2, S2, h2⟩ := e_wipe hK V pad S h
        rw [if_pos q1, f_L_c1, cV_k hK.k e1, cV_k hK.mo.1 e2, if_pos rfl]
        exact go V2 pad2 S2 h2
      rw [if_neg q1]
      by_cases q2 : (xs i &&& 31) = 2
      · obtain ⟨r, V1, V2, e1, e2, pad2, S2, h2⟩ := e_fault hK V pad S h
        rw [if_pos q2, f_L_c2, cV_k hK.k e1, cV_k hK.mo.1 e2, if_pos rfl]
        exact go V2 pad2 S2 h2
      rw [if_neg q2]
      by_cases q3 : (xs i &&& 31) = 3
      · obtain ⟨r, V1, V2, e1, e2, pad2, S2, h2⟩ := e_layer hK (xs (i + 1)) V pad S h
        rw [if_pos q3, f_L_c3, s1, cV_k hK.k e1, s1, cV_k hK.mo.1 e2, if_pos rfl]
        exact go V2 pad2 S2 h2
      rw [if_neg q3]
      by_cases q4 : (xs i &&& 31) = 4
      · obtain ⟨r, V1, V2, e1, e2, pad2, S2, h2⟩ := e_about hK (xs (i + 1)) (xs (i + 2)) V pad S h
        rw [if_pos q4, f_L_c4, s1, s2, cV_k hK.k e1, s1, s2, cV_k hK.mo.1 e2, if_pos rfl]
        exact go V2 pad2 S2 h2
      rw [if_neg q4]
      by_cases q5 : (xs i &&& 31) = 5
      · obtain ⟨r, V1, V2, e1, e2, pad2, S2, h2⟩ := e_chain hK (xs (i + 1)) V pad S h
        rw [if_pos q5, f_L_c5, s1, cV_k hK.k e1, s1, cV_k hK.mo.1 e2, if_pos rfl]
        exact go V2 pad2 S2 h2
      rw [if_neg q5]
      by_cases q6 : (xs i &&& 31) = 6
      · obtain ⟨r, V1, V2, e1, e2, pad2, S2, h2⟩ := e_unchain hK V pad S h
        rw [if_pos q6, f_L_c6, cV_k hK.k e1, cV_k hK.mo.1 e2, if_pos rfl]
        exact go V2 pad2 S2 h2
      rw [if_neg q6]
      by_cases q7 : (xs i &&& 31) = 7
      · obtain ⟨r, V1, V2, e1, e2, pad2, S2, h2⟩ := e_text hK V pad S h
        rw [if_pos q7, f_L_c7, cV_k hK.k e1, cV_k hK.mo.1 e2, if_pos rfl]
        exact go V2 pad2 S2 h2
      rw [if_neg q7]
      by_cases q8 : (xs i &&& 31) = 8
      · obtain ⟨r, V1, V2, e1, e2, pad2, S2, h2⟩ := e_behind hK (xs (i + 1)) (xs (i + 2)) V pad S h
        rw [if_pos q8, f_L_c8, s1, s2, cV_k hK.k e1, s1, s2, cV_k hK.mo.1 e2, if_pos rfl]
        exact go V2 pad2 S2 h2
      rw [if_neg q8]
      by_cases q9 : (xs i &&& 31) = 9
      · obtain ⟨r, V1, V2, e1, e2, pad2, S2, h2⟩ := e_barred hK V pad S h
        rw [if_pos q9, f_L_c9, cV_k hK.k e1, cV_k hK.mo.1 e2, if_pos rfl]
        exact go V2 pad2 S2 h2
      rw [if_neg q9]
      by_cases q10 : (xs i &&& 31) = 10
      · obtain ⟨r, V1, V2, e1, e2, pad2, S2, h2⟩ := e_grows hK (xs (i + 1)) V pad S h
        rw [if_pos q10, f_L_c10, s1, cV_k hK.k e1, s1, cV_k hK.mo.1 e2, if_pos rfl]
        exact go V2 pad2 S2 h2
      rw [if_neg q10]
      by_cases q11 : (xs i &&& 31) = 11
      · obtain ⟨r, V1, V2, e1, e2, pad2, S2, h2⟩ := e_safe hK (xs (i + 1)) V pad S h
        rw [if_pos q11, f_L_c11, s1, cV_k hK.k e1, s1, cV_k hK.mo.1 e2, if_pos rfl]
        exact go V2 pad2 S2 h2
      rw [if_neg q11]
      by_cases q12 : (xs i &&& 31) = 12
      · obtain ⟨r, V1, V2, e1, e2, pad2, S2, h2⟩ := e_dearest hK V pad S h
        rw [if_pos q12, f_L_c12, cV_k hK.k e1, cV_k hK.mo.1 e2, if_pos rfl]
        exact go V2 pad2 S2 h2
      rw [if_neg q12]
      by_cases q13 : (xs i &&& 31) = 13
      · obtain ⟨r, V1, V2, e1, e2, pad2, S2, h2⟩ := e_read hK (xs (i + 1)) V pad S h
        rw [if_pos q13, f_L_c13, s1, cV_k hK.k e1, s1, cV_k hK.mo.1 e2, if_pos rfl]
        exact go V2 pad2 S2 h2
      rw [if_neg q13]
      by_cases q14 : (xs i &&& 31) = 14
      · obtain ⟨r, V1, V2, e1, e2, pad2, S2, h2⟩ := e_spills hK (xs (i + 1)) V pad S h
        rw [if_pos q14, f_L_c14, s1, cV_k hK.k e1, s1, cV_k hK.mo.1 e2, if_pos rfl]
        exact go V2 pad2 S2 h2
      rw [if_neg q14]
      by_cases q15 : (xs i &&& 31) = 15
      · obtain ⟨r, V1, V2, e1, e2, pad2, S2, h2⟩ := e_spill hK (xs (i + 1)) (xs (i + 2)) V pad S h
        rw [if_pos q15, f_L_c15, s1, s2, cV_k hK.k e1, s1, s2, cV_k hK.mo.1 e2, if_pos rfl]
        exact go V2 pad2 S2 h2
      rw [if_neg q15]
      by_cases q16 : (xs i &&& 31) = 16
      · obtain ⟨r, V1, V2, e1, e2, pad2, S2, h2⟩ := e_twice hK (xs (i + 1)) V pad S h
        rw [if_pos q16, f_L_c16, s1, cV_k hK.k e1, s1, cV_k hK.mo.1 e2, if_pos rfl]
        exact go V2 pad2 S2 h2
      rw [if_neg q16]
      by_cases q17 : (xs i &&& 31) = 17
      · obtain ⟨r, V1, V2, e1, e2, pad2, S2, h2⟩ := e_rows hK (xs (i + 1)) V pad S h
        rw [if_pos q17, f_L_c17, s1, cV_k hK.k e1, s1, cV_k hK.mo.1 e2, if_pos rfl]
        exact go V2 pad2 S2 h2
      rw [if_neg q17]
      by_cases q18 : (xs i &&& 31) = 18
      · obtain ⟨r, V1, V2, e1, e2, pad2, S2, h2⟩ := e_order hK (xs (i + 1)) V pad S h
        rw [if_pos q18, f_L_c18, s1, cV_k hK.k e1, s1, cV_k hK.mo.1 e2, if_pos rfl]
        exact go V2 pad2 S2 h2
      rw [if_neg q18]
      by_cases q19 : (xs i &&& 31) = 19
      · obtain ⟨r, V1, V2, e1, e2, pad2, S2, h2⟩ := e_image hK (xs (i + 1)) V pad S h
        rw [if_pos q19, f_L_c19, s1, cV_k hK.k e1, s1, cV_k hK.mo.1 e2, if_pos rfl]
        exact go V2 pad2 S2 h2
      rw [if_neg q19]
      by_cases q20 : (xs i &&& 31) = 20
      · obtain ⟨r, V1, V2, e1, e2, pad2, S2, h2⟩ := e_restore hK (xs (i + 1)) V pad S h
        rw [if_pos q20, f_L_c20, s1, cV_k hK.k e1, s1, cV_k hK.mo.1 e2, if_pos rfl]
        exact go V2 pad2 S2 h2
      rw [if_neg q20]
      by_cases q21 : (xs i &&& 31) = 21
      · obtain ⟨r, V1, V2, e1, e2, pad2, S2, h2⟩ := e_told hK (xs (i + 1)) V pad S h
        rw [if_pos q21, f_L_c21, s1, cV_k hK.k e1, s1, cV_k hK.mo.1 e2, if_pos rfl]
        exact go V2 pad2 S2 h2
      rw [if_neg q21]
      exact go V pad S h
theorem law_pure (B b L : Nat) (xs : Nat → Int32) (hL : L ≤ 1536) : ∃ V : VT, f_L_18 (K0 B) (P0 B) xs L FU b B (B + 88) 0 (V0 B) = some (1, V) := by
  have := law_loop (b := b) (xs := xs) (cls0 B) hL FU 0 (V0 B) [] S00 (FU_lt (by omega)) (by omega) (inv0 B)
  rw [nI_0] at this
  exact this
