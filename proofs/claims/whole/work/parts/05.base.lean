/-! making: objects, rows of numbers, rows of references -/
section RW3
variable {g : GT} {R : Room} {Q : State → Prop} {nL : Nat} {K : KT} {P : PT} {V : VT} {n sl pc q : Nat} {L : List (Option Value)} {st : List Value} {own : String} {cc : ByteArray} {ret : Option FieldType}
theorem HR.grow {D : va_G} {T : TT} {H H1 : Heap} (h : HR D T K P V H) {a : Nat} {kd0 : Nat ⊕ (Nat × Nat)} {P2 : PT} {V2 : VT} (ha : H.size = a) (o1 : ∀ q : Nat, q < H.size → H1[q]? = H[q]?) (hat : va_at D cls (a, cel T P2 V2 a kd0) H1) (hP : ∀ b, b ≠ a → P2 b = P b) (hV : ∀ b, b ≠ a → V2 b = V b) : HR D T (kset K a kd0) P2 V2 H1 := by
  intro b kd hb
  unfold kset at hb
  split at hb
  · rename_i hba
    cases hb
    subst hba
    exact hat
  · rename_i hba
    rw [cel_congr (hP b hba) (hV b hba)]
    exact (h b kd hb).kept (o1 b ((h b kd hb).lt))
theorem S_grow {A : Nat → Prop} {H0 H H1 : Heap} {locs : List Loc} (hS : va_S A H0 H locs) (z1 : H1.size = H.size + 1) (o1 : ∀ q : Nat, q < H.size → H1[q]? = H[q]?) : va_S A H0 H1 locs :=
  ⟨Nat.le_trans hS.1 (by omega), fun x h1 h2 => (o1 x (Nat.lt_of_lt_of_le h1 hS.1)).trans (hS.2.1 x h1 h2), hS.2.2⟩
theorem A_grow {A : Nat → Prop} {a : Nat} {kd : Nat ⊕ (Nat × Nat)} (h4 : ∀ b : Nat, K b ≠ none → A b) (ha : A a) : ∀ b : Nat, kset K a kd b ≠ none → A b := by
  intro b hb
  unfold kset at hb
  split at hb
  · rename_i hba; rw [hba]; exact ha
  · exact h4 b hb
theorem j_new {C : String} {Tt : u_T} {N ci index : Nat} (a : Nat) (h : OK g own cc nL ret) (ha : gsz g + n = a) (ty0 : Nat → FieldType) (hty : ∀ k, k < N → parseFieldDescriptor (Tt k).2.2.1 = some (ty0 k)) (hin : ∀ w ∈ u_ws C Tt N, w ∈ TBL) (hc : cls[ci]? = some (C, Tt, N)) (hN : nF ci = N) (hdef : ∀ j, j < N → defaultValue (ty0 j) = if isR ci j = true then .null else .int 0) (hw1 : Cond.classLink own index C ∈ TBL) (hw2 : Cond.instantiable C N ∈ TBL) (hw3 : Cond.initialized C ∈ TBL) (hfit : n + 1 ≤ R.cells ∧ sl + N ≤ R.slots) (d : decode cc pc = .ok (.new index, 3)) (hq : pc + 3 = q)
    (kk : J g R Q nL (kset K a (.inl ci)) (prow P a (fun _ => none)) (vrow V a (fun _ => 0)) (n + 1) (sl + N) q L (.ref a :: st)) : J g R Q nL K P V n sl pc L st := by
  obtain ⟨p, l, e, s, m, args, below, meth, c, D, T, A⟩ := g
  subst hq
  obtain ⟨hx, hb, hml, ho, hts, hK, hNX, hlk, hA, hr⟩ := h
  refine J.i fun H locs ls h1 h2 h3 h4 h5 => ?_
  have hKn := hK.1 ci _ hc
  have hsz : H.size = a := by rw [h3]; exact ha
  refine W.newcK hx hb ho (hts _ hw1) (hts _ hw2) (hts _ hw3) rfl d hfit.1 hfit.2 hKn.2.1 hsz fun H1 kC hkC e1 z1 o1 => ?_
  rw [← hsz] at z1 o1
  refine kk.u (h1.grow hsz o1 ⟨_, hc, (u_born ty0 hts hin hKn hkC e1 hty).to (fun j hj => ?_)⟩ (fun b hb => prow_ne hb) (fun b hb => vrow_ne hb)) (S_grow h2 z1 o1) (by rw [z1, h3]; omega) (A_grow h4 (hA a (by rw [← hsz, h3]; exact Nat.le_add_right _ _))) h5
  show defaultValue (ty0 j) = vp_V (flds ci (prow P a (fun _ => none)) (vrow V a (fun _ => 0)) a) j
  rw [vp_flds _ _ _ (by rw [hN]; exact hj), hdef j hj]
  simp [prow, vrow, va_rf]
theorem j_newa {x : Int32} {N : Nat} (a : Nat) (h : OK g own cc nL ret) (ha : gsz g + n = a) (hx0 : x = nI N) (hN31 : N < 100000000) (hw : Cond.arrayClass .int ∈ TBL) (hfit : n + 1 ≤ R.cells ∧ sl + N ≤ R.slots) (d : decode cc pc = .ok (.newarray .int, 2)) (hq : pc + 2 = q)
    (kk : J g R Q nL (kset K a (.inr (0, N))) P (vrow V a (fun _ => 0)) (n + 1) (sl + N) q L (.ref a :: st)) : J g R Q nL K P V n sl pc L (.int x :: st) := by
  obtain ⟨p, l, e, s, m, args, below, meth, c, D, T, A⟩ := g
  subst hq; subst hx0
  obtain ⟨hx, hb, hml, ho, hts, hK, hNX, hlk, hA, hr⟩ := h
  refine J.i fun H locs ls h1 h2 h3 h4 h5 => ?_
  have hsz : H.size = a := by rw [h3]; exact ha
  refine va_newaK (atype := .int) (N := N) hx hb (hts _ hw) rfl d rfl (nI_pos (by omega)) (nI_clamp (by omega)) (by show N * 4 ≤ _; omega) hfit.1 hfit.2 hsz fun H1 cA e1 z1 o1 hAr hNm => ?_
  rw [← hsz] at z1 o1
  have hcA : cA = T.1 := Option.some.inj (hNm.symm.trans (hK.2 0 _ rfl).2)
  subst hcA
  refine kk.u (h1.grow hsz o1 ?_ (fun _ _ => rfl) (fun b hb => vrow_ne hb)) (S_grow h2 z1 o1) (by rw [z1, h3]; omega) (A_grow h4 (hA a (by rw [← hsz, h3]; exact Nat.le_add_right _ _))) h5
  show H1[a]? = some (vp_cell T.1 (N, .inl (vrow V a (fun _ => 0) a)))
  rw [e1, vp_cell_i]
  simp [vrow]; rfl
theorem j_newz {x : Int32} {N : Nat} (a : Nat) (h : OK g own cc nL ret) (ha : gsz g + n = a) (hx0 : x = nI N) (hN31 : N < 100000000) (hw : Cond.arrayClass .boolean ∈ TBL) (hfit : n + 1 ≤ R.cells ∧ sl + N ≤ R.slots) (d : decode cc pc = .ok (.newarray .boolean, 2)) (hq : pc + 2 = q)
    (kk : J g R Q nL (kset K a (.inr (1, N))) P (vrow V a (fun _ => 0)) (n + 1) (sl + N) q L (.ref a :: st)) : J g R Q nL K P V n sl pc L (.int x :: st) := by
  obtain ⟨p, l, e, s, m, args, below, meth, c, D, T, A⟩ := g
  subst hq; subst hx0
  obtain ⟨hx, hb, hml, ho, hts, hK, hNX, hlk, hA, hr⟩ := h
  refine J.i fun H locs ls h1 h2 h3 h4 h5 => ?_
  have hsz : H.size = a := by rw [h3]; exact ha
  refine va_newaK (atype := .boolean) (N := N) hx hb (hts _ hw) rfl d rfl (nI_pos (by omega)) (nI_clamp (by omega)) (by show N * 1 ≤ _; omega) hfit.1 hfit.2 hsz fun H1 cA e1 z1 o1 hAr hNm => ?_
  rw [← hsz] at z1 o1
  have hcA : cA = T.2.1 := Option.some.inj (hNm.symm.trans (hK.2 1 _ rfl).2)
  subst hcA
  refine kk.u (h1.grow hsz o1 ?_ (fun _ _ => rfl) (fun b hb => vrow_ne hb)) (S_grow h2 z1 o1) (by rw [z1, h3]; omega) (A_grow h4 (hA a (by rw [← hsz, h3]; exact Nat.le_add_right _ _))) h5
  show H1[a]? = some (vp_cell T.2.1 (N, .inl (vrow V a (fun _ => 0) a)))
  rw [e1, vp_cell_i]
  simp [vrow]; rfl
theorem j_newq {index N : Nat} {x : Int32} (a : Nat) (h : OK g own cc nL ret) (ha : gsz g + n = a) (hx0 : x = nI N) (hN31 : N < 100000000) (hw : Cond.classLink own index "QuotedLayers$Layer" ∈ TBL) (hfit : n + 1 ≤ R.cells ∧ sl + N ≤ R.slots) (d : decode cc pc = .ok (.anewarray index, 3)) (hq : pc + 3 = q)
    (kk : J g R Q nL (kset K a (.inr (2, N))) (prow P a (fun _ => none)) V (n + 1) (sl + N) q L (.ref a :: st)) : J g R Q nL K P V n sl pc L (.int x :: st) := by
  obtain ⟨p, l, e, s, m, args, below, meth, c, D, T, A⟩ := g
  subst hq; subst hx0
  obtain ⟨hx, hb, hml, ho, hts, hK, hNX, hlk, hA, hr⟩ := h
  refine J.i fun H locs ls h1 h2 h3 h4 h5 => ?_
  have hsz : H.size = a := by rw [h3]; exact ha
  have hcl : (nI N).toNatClampNeg = N := nI_clamp (by omega)
  refine W.anew hx hb ho (hts _ hw) (va_AO.use hNX.2.2) rfl d rfl (nI_pos (by omega)) (by rw [hcl]; omega) hfit.1 (by rw [hcl]; exact hfit.2) fun cA kA comp f1 f2 f3 f4 => ?_
  generalize hH1 : H.push ({ cls := cA, slots := Array.replicate (nI N).toNatClampNeg .null, vm := .none } : Cell) = H1
  have z1 : H1.size = H.size + 1 := by rw [← hH1, Array.size_push]
  have e1 : H1[H.size]? = some (arrV cA N (fun _ => .null)) := by rw [← hH1, Array.getElem?_push_size, hcl, ← arrV_new]
  have o1 : ∀ q : Nat, q < H.size → H1[q]? = H[q]? := fun q hq => by rw [← hH1, Array.getElem?_push, if_neg (Nat.ne_of_lt hq)]
  obtain ⟨kA', comp', g1, g2, g3, g4⟩ := (hK.2 2 _ rfl).2
  have hcA : cA = T.2.2 := Option.some.inj (f1.symm.trans g4)
  subst hcA
  rw [hsz, hcl]
  refine kk.u (h1.grow hsz o1 ?_ (fun b hb => prow_ne hb) (fun _ _ => rfl)) (S_grow h2 z1 o1) (by rw [z1, h3]; omega) (A_grow h4 (hA a (by rw [← hsz, h3]; exact Nat.le_add_right _ _))) h5
  show H1[a]? = some (vp_cell T.2.2 (N, .inr (.inr (.inr (.inr (prow P a (fun _ => none) a))))))
  rw [← hsz, e1, vp_cell_q]
  simp [prow, va_rf]
theorem j_aast {a v N : Nat} {i : Int32} (h : OK g own cc nL ret) (hKa : K a = some (.inr (2, N))) (h0 : 0 ≤ i) (hlt : i.toNatClampNeg < N) (hKv : K v = some (.inl 0)) (d : decode cc pc = .ok (.aastore, 1)) (hq : pc + 1 = q) (kk : J g R Q nL K (pset P a i.toNatClampNeg (some v)) V n sl q L st) : J g R Q nL K P V n sl pc L (.ref v :: .int i :: .ref a :: st) := by
  obtain ⟨p, l, e, s, m, args, below, meth, c, D, T, A⟩ := g
  subst hq
  obtain ⟨hx, hb, hml, ho, hts, hK, hNX, hlk, hA, hr⟩ := h
  refine J.i fun H locs ls h1 h2 h3 h4 h5 => ?_
  obtain ⟨r', hr', cellV, g1, g2, g3, -⟩ := h1 v _ hKv
  have hcls := (hK.1 0 _ rfl).2
  obtain ⟨kA, comp, k1, k2, k3, -⟩ := (hK.2 2 _ rfl).2
  have hcomp : comp = D.1 0 := Option.some.inj (k3.symm.trans hcls.1)
  subst hcomp
  obtain ⟨kC, hkC, -⟩ := hcls.2
  refine W.aast hx hb (h1 a _ hKa) (fun q h => by cases h) (fun h => by cases h) k1 k2 rfl hkC ⟨fun z => absurd h0 (Int32.not_le.mpr z), by show _ < (arrV _ _ _).slots.size; rw [arrV_size]; exact hlt⟩ g1 (fun q h => by rw [g3] at h; cases h) (by rw [g2]; exact hkC) (by rw [g2]; exact va_assign hcls) rfl rfl d fun H1 e z oq => ?_
  refine kk.u (h1.put oq (fun kd hkd => ?_) (fun _ hb => pset_ne hb) (fun _ _ => rfl)) (h2.put z oq (h4 a (by rw [hKa]; exact fun z => by cases z))) (by rw [z]; exact h3) h4 h5
  rw [hKa] at hkd
  cases hkd
  show H1[a]? = some (vp_cell T.2.2 (N, .inr (.inr (.inr (.inr (pset P a i.toNatClampNeg (some v) a))))))
  rw [e]
  show some ((vp_cell T.2.2 (N, .inr (.inr (.inr (.inr (P a)))))).setSlot _ _) = _
  rw [vp_cell_q, vp_cell_q, arrV_store]
  congr 2
  funext q
  by_cases hq : q = i.toNatClampNeg
  · subst hq
    simp [updV, pset, va_rf]
  · simp [updV, pset, hq]
/-- a final reference field, in a constructor -/
theorem j_pF {ci k index N : Nat} {C : String} {Tt : u_T} {a b : Nat} (h : OK g own cc nL ret) (hini : INI g) (ty0 : Nat → FieldType) (hty : ∀ k, k < N → parseFieldDescriptor (Tt k).2.2.1 = some (ty0 k)) (hnm : ∀ a, a < N → ∀ b, b < N → a ≠ b → (Tt a).2.1 ≠ (Tt b).2.1) (hin : ∀ w ∈ u_ws C Tt N, w ∈ TBL) (hc : cls[ci]? = some (C, Tt, N)) (hN : nF ci = N) (hk : k < N) (hr : isR ci k = true) (hfin : (Tt k).2.2.2 = true) (hdecl : (Tt k).1 = own) {ty : FieldType} (hd : parseFieldDescriptor (Tt k).2.2.1 = some ty) (hn : narrow ty (.ref b) = .ref b) (hfit : fits ty (.ref b) = true) (hlk : Cond.fieldLink own index (Tt k).1 (Tt k).2.1 (Tt k).2.2.1 ∈ TBL) (d : decode cc pc = .ok (.putfield index, 3)) (hq : pc + 3 = q) (hKa : K a = some (.inl ci)) (kk : J g R Q nL K (pset P a k (some b)) V n sl q L st) : J g R Q nL K P V n sl pc L (.ref b :: .ref a :: st) :=
  j_putF (pset P a k (some b)) V h hini ty0 hty hnm hin hc hN hk hfin hdecl hd hn hfit hlk d hq hKa (fun _ hb => pset_ne hb) (fun _ _ => rfl) (fun j hj => flds_pset a (some b) hr j hj) kk
end RW3
