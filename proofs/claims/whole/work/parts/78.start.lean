/-! PURE PART, 29: the state at first -/
def S00 : StT := (fun _ => lay0, [], [120])
theorem wf_00 : WfS S00 := by
  refine ⟨fun i _ => wf_lay0, ⟨by decide, fun c h => by simp [S00] at h⟩, ⟨by decide, by decide⟩, fun s h => ?_⟩
  simp only [S00, List.mem_cons, List.not_mem_nil, or_false] at h
  rw [h]; decide
section ST1
variable {B : Nat} {V : VT} {a : Nat}
theorem rowv_nil {r N : Nat} (h1 : V r 1 = 0) (h2 : V r 2 = 0) : RowV V r N [] 0 := ⟨by rw [h1]; exact nI_0.symm, Nat.zero_le _, fun i x h => by simp at h, h2, Or.inl rfl⟩
theorem x4_rowv {N : Nat} : RowV (iV_X4 V a) a N [] 0 := by
  refine rowv_nil ?_ ?_ <;> simp [iV_X4, vrow, vset]
theorem x5_stdv : StdV (iV_X5 V a) a S00 := by
  refine ⟨fun i hi => ?_, rowv_nil ?_ ?_, ⟨?_, by decide, fun i x h => ?_, ?_, Or.inl rfl⟩⟩
  · have : i = 0 ∨ i = 1 ∨ i = 2 ∨ i = 3 ∨ i = 4 := by omega
    rcases this with rfl | rfl | rfl | rfl | rfl
    all_goals refine ⟨?_, ?_, ?_, rowv_nil ?_ ?_⟩
    all_goals simp [iV_X5, iV_X1, iV_X4, adV, vset, vrow, S00, lay0, Nat.add_assoc]
  · simp [iV_X5, iV_X1, iV_X4, adV, vset, vrow, Nat.add_assoc]
  · simp [iV_X5, iV_X1, iV_X4, adV, vset, vrow, Nat.add_assoc]
  · show iV_X5 V a (a + 7) 1 = 1
    simp [iV_X5, iV_X1, iV_X4, adV, vset, vrow, Nat.add_assoc]
  · have hi : i = 0 := by
      have := (List.getElem?_eq_some_iff.mp h).1
      simp [S00] at this; exact this
    subst hi
    have hx : x = 120 := by
      have h' : some (120 : Int32) = some x := h
      cases h'; rfl
    rw [hx]
    simp [iV_X5, iV_X1, iV_X4, adV, vset, vrow, Nat.add_assoc]
  · simp [iV_X5, iV_X1, iV_X4, adV, vset, vrow, Nat.add_assoc]
theorem x5_flag : iV_X5 V a a 4 = 0 := by
  simp [iV_X5, iV_X1, iV_X4, adV, vset, vrow, Nat.add_assoc]
theorem x3_pasv : PasF (iV_X3 V a) a := by
  left
  simp [iV_X3, iV_X4, vset, vrow, Nat.add_assoc]
theorem x7_mov (h : V a = fun _ => 0) : MoS (iV_X7 V a) a S00 ∧ PadM (iV_X7 V a) a [] ∧ ∀ n, iV_X7 V a (a + 16) n = 0 := by
  refine ⟨⟨fun i hi => ?_, ⟨?_, ArV.nil⟩, ?_, fun i x hx => ?_⟩, ⟨?_, ArV.nil⟩, fun n => ?_⟩
  · have : i = 0 ∨ i = 1 ∨ i = 2 ∨ i = 3 ∨ i = 4 := by omega
    rcases this with rfl | rfl | rfl | rfl | rfl
    all_goals refine ⟨?_, ?_, ?_, ?_, fun j x hj => ?_⟩
    all_goals first
      | (simp [S00, lay0] at hj; done)
      | simp [iV_X7, vset, vrow, S00, lay0, mkM, nI_0]
  · show iV_X7 V a a 7 = nI 0
    simp [iV_X7, vset, vrow, h, nI_0]
  · show iV_X7 V a a 9 = nI 1
    simp [iV_X7, vset, vrow, h]; rfl
  · have hi : i = 0 := by
      have := (List.getElem?_eq_some_iff.mp hx).1
      simp [S00] at this; exact this
    subst hi
    have hx2 : x = 120 := by
      have h' : some (120 : Int32) = some x := hx
      cases h'; rfl
    rw [hx2]
    simp [iV_X7, vset, vrow]
  · show iV_X7 V a a 0 = nI 0
    simp [iV_X7, vset, vrow, h, nI_0]
  · simp [iV_X7, vset, vrow]
theorem RowV.cg {V V2 : VT} {r N : Nat} {l : List Int32} {o : Int32} (h : RowV V r N l o) (e : ∀ b, r ≤ b → b < r + 2 → V2 b = V b) : RowV V2 r N l o := h.keep (e _ (by omega) (by omega)) (e _ (by omega) (by omega))
theorem StdV.cg {V V2 : VT} {s : Nat} {S : StT} (h : StdV V s S) (e : ∀ b, s ≤ b → b < s + 24 → V2 b = V b) : StdV V2 s S := by
  refine ⟨fun i hi => ?_, h.2.1.cg (fun b h1 h2 => e b (by omega) (by omega)), h.2.2.cg (fun b h1 h2 => e b (by omega) (by omega))⟩
  obtain ⟨a1, a2, a3, a4⟩ := h.1 i hi
  have ea := e (s + 9 + 3 * i) (by omega) (by omega)
  exact ⟨by rw [ea]; exact a1, by rw [ea]; exact a2, by rw [ea]; exact a3, a4.cg (fun b h1 h2 => e b (by omega) (by omega))⟩
theorem inv0 (B : Nat) : Inv B (V0 B) [] S00 := by
  have vl : ∀ {b : Nat}, b ≤ B + 87 → V0 B b = vq10 B b := fun h => by rw [v0_lo h, vq_end]
  have hm := x7_mov (V := vrow (iV_X6 (vrow (fun _ _ => 0) B (fun _ => 0)) B) (B + 88) (fun _ => 0)) (a := B + 88) (by show (if B + 88 = B + 88 then _ else _) = _; rw [if_pos rfl])
  obtain ⟨m1, m2, m3⟩ := hm
  have m1' : MoS (V0 B) (B + 88) S00 := m1
  have m2' : PadM (V0 B) (B + 88) [] := m2
  have m3' : ∀ n, V0 B (B + 88 + 16) n = 0 := m3
  refine ⟨by simp, fun x hx => by simp at hx, wf_00, ⟨?_, ?_, ?_⟩, m2', m1', fun n hn => ?_⟩
  · exact (x4_rowv (V := vrow (vq1 B) (B + 1) (fun _ => 0)) (a := B + 1)).cg (fun b h1 h2 => by rw [vl (by omega), vz2 (by omega)]; rfl)
  · exact (x5_stdv (V := vrow (vq2 B) (B + 3) (fun _ => 0)) (a := B + 3)).cg (fun b h1 h2 => by rw [vl (by omega), vz3 (by omega)]; rfl)
  · have := x3_pasv (V := vrow (vq5 B) (B + 75) (fun _ => 0)) (a := B + 75)
    unfold PasF
    rw [vl (by omega), vz6 (by omega)]
    exact this
  · left
    refine ⟨?_, m3' n⟩
    have : n = 0 ∨ n = 1 := by omega
    rcases this with rfl | rfl
    · show V0 B (B + 27) 4 = 0
      rw [vl (by omega), vz4 (by omega)]
      exact x5_flag
    · show V0 B (B + 51) 4 = 0
      rw [vl (by omega), vz5 (by omega)]
      exact x5_flag
end ST1
