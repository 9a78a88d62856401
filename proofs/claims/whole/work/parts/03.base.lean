section BASE
/-! the abstract world: kinds K, reference fields P, whole numbers V, by real addresses -/
abbrev KT : Type := Nat → Option (Nat ⊕ (Nat × Nat))
abbrev PT : Type := Nat → Nat → Option Nat
abbrev VT : Type := Nat → Nat → Int32
abbrev TT : Type := ClassId × ClassId × ClassId
abbrev cls : List vw_C := [(RX1, TX1, 4), (RX3, TX3, 5), (RX4, TX4, 3), (RX5, TX5, 5), (RX6, TX6, 9), (RX7, TX7, 22)]
def nF (ci : Nat) : Nat := match ci with | 0 => 4 | 1 => 5 | 2 => 3 | 3 => 5 | 4 => 9 | _ => 22
def isR (ci k : Nat) : Bool := match ci with
  | 0 => k == 3
  | 1 => k == 0 || k == 1
  | 2 => k == 0
  | 3 => k == 0 || k == 1 || k == 2 || k == 3
  | 4 => true
  | _ => !(k == 0 || k == 7 || k == 9 || k == 11 || k == 14 || k == 16)
def flds (ci : Nat) (P : PT) (V : VT) (a : Nat) : List Value := (List.range (nF ci)).map (fun k => if isR ci k = true then va_rf (P a k) else .int (V a k))
def cel (T : TT) (P : PT) (V : VT) (a : Nat) : Nat ⊕ (Nat × Nat) → va_E
  | .inl ci => .inr (ci, flds ci P V a)
  | .inr (0, n) => .inl (T.1, n, .inl (V a))
  | .inr (1, n) => .inl (T.2.1, n, .inl (V a))
  | .inr (_, n) => .inl (T.2.2, n, .inr (.inr (.inr (.inr (P a)))))
def HR (D : va_G) (T : TT) (K : KT) (P : PT) (V : VT) (H : Heap) : Prop := ∀ (a : Nat) (kd : Nat ⊕ (Nat × Nat)), K a = some kd → va_at D cls (a, cel T P V a kd) H
abbrev tys (T : TT) : List (ClassId × FieldType) := [(T.1, .int), (T.2.1, .boolean), (T.2.2, .object "QuotedLayers$Layer")]
def nx1 : Cond := .methodLinkNest RX2 41 ⟨RX6, "isSign", "(I)Z"⟩ RX6
def nx2 : Cond := .methodLinkNest RX1 92 ⟨RX6, "isSign", "(I)Z"⟩ RX6
def NX (s : State) : Prop := va_Nw nx1 s ∧ va_Nw nx2 s ∧ va_AO "QuotedLayers$Layer" s
theorem NX.warm {s U : State} (hW : s.WarmedH U.vm) (h : NX s) : NX U := ⟨va_Nw.warmM hW h.1, va_Nw.warmM hW h.2.1, h.2.2.moved hW.alike⟩
theorem NX.same {u U : State} (h : u.vm = U.vm) (hn : NX u) : NX U := ⟨va_Nw.same rfl h hn.1, va_Nw.same rfl h hn.2.1, hn.2.2.moved (by rw [h]; exact Vm.Alike.refl _)⟩
def TBL : List Cond := lw_tbl.filter goodWord
theorem tm {i : Nat} {w : Cond} (h : lw_tbl[i]? = some w) (hg : goodWord w = true) : w ∈ TBL := List.mem_filter.mpr ⟨List.mem_of_getElem? h, hg⟩
theorem tb_good {ws : List Cond} (h : ∀ w ∈ ws, w ∈ TBL) : GoodIn TBL ws := fun w hw => ⟨h w hw, good_of_word (List.mem_filter.mp (h w hw)).2⟩
abbrev GT : Type := Program × Launch × Env × State × MethodId × Array Value × List Frame × Method × Code × va_G × TT × (Nat → Prop)
def OK (g : GT) (own : String) (cc : ByteArray) (nL : Nat) (ret : Option FieldType) : Prop := match g with
  | (p, _, _, s, m, args, _, meth, c, D, T, A) => p.tables.exec = Jvm.exec ∧ c.code = cc ∧ c.maxLocals = nL ∧ s.vm.findClass own = some m.cls ∧ (∀ w ∈ TBL, w.before args s = true) ∧ va_K D cls (tys T) s ∧ NX s ∧ meth.locks = false ∧ (∀ q : Nat, s.heap.size ≤ q → A q) ∧ meth.sig.returnType = ret
/-- a constructor's body -/
def INI (g : GT) : Prop := match g with | (_, _, _, _, _, _, _, meth, _) => meth.name = "<init>"
def gsz (g : GT) : Nat := match g with | (_, _, _, s, _) => s.heap.size
def WL (g : GT) (K : KT) (P : PT) (V : VT) (n : Nat) (H : Heap) (locs : List Loc) : Prop := match g with
  | (_, _, _, s, _, _, _, _, _, D, T, A) => HR D T K P V H ∧ va_S A s.heap H locs ∧ H.size = s.heap.size + n ∧ ∀ a : Nat, K a ≠ none → A a
def lvO (ls : Array Slot) (nL : Nat) (L : List (Option Value)) : Prop := ls.size = nL ∧ lv_wf ls ∧ ∀ (i : Nat) (v : Value), L[i]? = some (some v) → ls[i]? = some (.val v)
def J (g : GT) (R : Room) (Q : State → Prop) (nL : Nat) (K : KT) (P : PT) (V : VT) (n sl pc : Nat) (L : List (Option Value)) (st : List Value) : Prop := match g with
  | (p, l, e, s, m, args, below, meth, c, _, _, _) => ∀ (H : Heap) (locs : List Loc) (ls : Array Slot), WL g K P V n H locs → lvO ls nL L → W p l e R s m args below meth c H locs n sl Q (F0 m pc ls st)
theorem J.i {p : Program} {l : Launch} {e : Env} {s : State} {m : MethodId} {args : Array Value} {below : List Frame} {meth : Method} {c : Code} {D : va_G} {T : TT} {A : Nat → Prop} {R : Room} {Q : State → Prop} {nL : Nat} {K : KT} {P : PT} {V : VT} {n sl pc : Nat} {L : List (Option Value)} {st : List Value}
    (h : ∀ (H : Heap) (locs : List Loc) (ls : Array Slot), HR D T K P V H → va_S A s.heap H locs → H.size = s.heap.size + n → (∀ a : Nat, K a ≠ none → A a) → lvO ls nL L → W p l e R s m args below meth c H locs n sl Q (F0 m pc ls st)) : J (p, l, e, s, m, args, below, meth, c, D, T, A) R Q nL K P V n sl pc L st := fun H locs ls hW hl => h H locs ls hW.1 hW.2.1 hW.2.2.1 hW.2.2.2 hl
theorem J.u {p : Program} {l : Launch} {e : Env} {s : State} {m : MethodId} {args : Array Value} {below : List Frame} {meth : Method} {c : Code} {D : va_G} {T : TT} {A : Nat → Prop} {R : Room} {Q : State → Prop} {nL : Nat} {K : KT} {P : PT} {V : VT} {n sl pc : Nat} {L : List (Option Value)} {st : List Value}
    (h : J (p, l, e, s, m, args, below, meth, c, D, T, A) R Q nL K P V n sl pc L st) {H : Heap} {locs : List Loc} {ls : Array Slot} (h1 : HR D T K P V H) (h2 : va_S A s.heap H locs) (h3 : H.size = s.heap.size + n) (h4 : ∀ a : Nat, K a ≠ none → A a) (h5 : lvO ls nL L) : W p l e R s m args below meth c H locs n sl Q (F0 m pc ls st) := h H locs ls ⟨h1, h2, h3, h4⟩ h5
theorem lvO.has {ls : Array Slot} {nL : Nat} {L : List (Option Value)} (h : lvO ls nL L) : lv_has ls nL ((List.range L.length).filterMap (fun i => match L[i]? with | some (some v) => some (i, v) | _ => none)) := by
  refine ⟨h.1, h.2.1, fun q hq => ?_⟩
  obtain ⟨i, -, hi⟩ := List.mem_filterMap.mp hq
  cases hL : L[i]? with
  | none => rw [hL] at hi; cases hi
  | some o =>
    cases o with
    | none => rw [hL] at hi; cases hi
    | some v => rw [hL] at hi; cases hi; exact h.2.2 i v hL
theorem lvO.mem {L : List (Option Value)} {i : Nat} {v : Value} (h : L[i]? = some (some v)) : (i, v) ∈ (List.range L.length).filterMap (fun i => match L[i]? with | some (some v) => some (i, v) | _ => none) := by
  refine List.mem_filterMap.mpr ⟨i, List.mem_range.mpr (List.getElem?_eq_some_iff.mp h).1, ?_⟩
  rw [h]
/-- L2 is L1 with v at i -/
def lput (L1 : List (Option Value)) (i : Nat) (v : Value) (L2 : List (Option Value)) : Prop := L1.set i (some v) = L2
theorem lvO.store {nL : Nat} {L L2 : List (Option Value)} {i : Nat} {v : Value} (hL : ∀ (j : Nat) (w : Value), L[j]? = some (some w) → w.category = 1) (h2 : lput L i v L2) {ls' : Array Slot}
    (h : lv_has ls' nL ((i, v) :: ((List.range L.length).filterMap (fun i => match L[i]? with | some (some v) => some (i, v) | _ => none)).filter (fun q => !(q.1 == i) && !(q.1 + 1 == i && q.2.category == 2)))) : lvO ls' nL L2 := by
  refine ⟨h.1, h.2.1, fun j w hj => ?_⟩
  rw [← h2] at hj
  by_cases hji : j = i
  · subst hji
    by_cases hlt : j < L.length
    · rw [List.getElem?_set_self hlt] at hj
      cases hj
      exact h.2.2 (j, v) List.mem_cons_self
    · rw [List.getElem?_eq_none (by rw [List.length_set]; omega)] at hj
      cases hj
  · rw [List.getElem?_set_ne (fun z => hji z.symm)] at hj
    refine h.2.2 (j, w) (List.mem_cons_of_mem _ (List.mem_filter.mpr ⟨lvO.mem hj, ?_⟩))
    have hc := hL j w hj
    simp [hji, hc]
def c1 (L : List (Option Value)) : Bool := L.all (fun o => match o with | some (.int _) => true | some (.ref _) => true | none => true | _ => false)
theorem c1.ok {L : List (Option Value)} (h : c1 L = true) (j : Nat) (w : Value) (hj : L[j]? = some (some w)) : w.category = 1 := by
  have := List.all_eq_true.mp h _ (List.mem_of_getElem? hj)
  cases w <;> first | rfl | simp at this
def lsub : List (Option Value) → List (Option Value) → Prop
  | [], _ => True
  | none :: t, L => lsub t L.tail
  | some v :: t, L => L.head? = some (some v) ∧ lsub t L.tail
theorem lsub.ok : ∀ {L1 L2 : List (Option Value)}, lsub L1 L2 → ∀ (i : Nat) (v : Value), L1[i]? = some (some v) → L2[i]? = some (some v)
  | [], _, _, i, v, h => by simp at h
  | none :: t, L2, hs, i, v, h => by
    cases i with
    | zero => simp at h
    | succ i =>
      have := lsub.ok (L1 := t) hs i v (by simpa using h)
      cases L2 with
      | nil => simp at this
      | cons a l => simpa using this
  | some w :: t, L2, hs, i, v, h => by
    cases i with
    | zero =>
      cases L2 with
      | nil => cases hs.1
      | cons a l => have := hs.1; simp at this h; subst this; subst h; rfl
    | succ i =>
      have := lsub.ok (L1 := t) hs.2 i v (by simpa using h)
      cases L2 with
      | nil => simp at this
      | cons a l => simpa using this
theorem lvO.sub {ls : Array Slot} {nL : Nat} {L L2 : List (Option Value)} (h : lvO ls nL L) (hs : lsub L2 L) : lvO ls nL L2 := ⟨h.1, h.2.1, fun i v hi => h.2.2 i v (hs.ok i v hi)⟩
theorem HR.one {D : va_G} {T : TT} {K : KT} {P : PT} {V : VT} {H : Heap} (h : HR D T K P V H) {a : Nat} {kd : Nat ⊕ (Nat × Nat)} (hk : K a = some kd) : va_P D cls [(a, cel T P V a kd)] H := by
  intro k q hq
  cases k with
  | zero => cases hq; exact h a kd hk
  | succ k => simp at hq
theorem flds_get {ci k : Nat} (P : PT) (V : VT) (a : Nat) (hk : k < nF ci) : (flds ci P V a)[k]? = some (if isR ci k = true then va_rf (P a k) else .int (V a k)) := by
  simp [flds, List.getElem?_map, List.getElem?_range, hk]
theorem flds_len (ci : Nat) (P : PT) (V : VT) (a : Nat) : (flds ci P V a).length = nF ci := by simp [flds]
theorem vp_flds {ci k : Nat} (P : PT) (V : VT) (a : Nat) (hk : k < nF ci) : vp_V (flds ci P V a) k = if isR ci k = true then va_rf (P a k) else .int (V a k) := by
  unfold vp_V
  rw [List.getD_eq_getElem?_getD, flds_get P V a hk]
  rfl
theorem flds_congr {ci : Nat} {P P2 : PT} {V V2 : VT} {a : Nat} (hP : P2 a = P a) (hV : V2 a = V a) : flds ci P2 V2 a = flds ci P V a := by unfold flds; rw [hP, hV]
theorem cel_congr {T : TT} {P P2 : PT} {V V2 : VT} {a : Nat} {kd : Nat ⊕ (Nat × Nat)} (hP : P2 a = P a) (hV : V2 a = V a) : cel T P2 V2 a kd = cel T P V a kd := by
  rcases kd with ci | ⟨t, n⟩
  · show Sum.inr (ci, flds ci P2 V2 a) = Sum.inr (ci, flds ci P V a)
    rw [flds_congr hP hV]
  · match t with
    | 0 => show Sum.inl _ = Sum.inl _; rw [hV]
    | 1 => show Sum.inl _ = Sum.inl _; rw [hV]
    | t + 2 => show Sum.inl _ = Sum.inl _; rw [hP]
def vset (V : VT) (a k : Nat) (x : Int32) : VT := fun b j => if b = a ∧ j = k then x else V b j
def pset (P : PT) (a k : Nat) (x : Option Nat) : PT := fun b j => if b = a ∧ j = k then x else P b j
def kset (K : KT) (a : Nat) (kd : Nat ⊕ (Nat × Nat)) : KT := fun b => if b = a then some kd else K b
def vrow (V : VT) (a : Nat) (f : Nat → Int32) : VT := fun b => if b = a then f else V b
def prow (P : PT) (a : Nat) (f : Nat → Option Nat) : PT := fun b => if b = a then f else P b
theorem vset_ne {V : VT} {a k b : Nat} {x : Int32} (h : b ≠ a) : vset V a k x b = V b := by funext j; simp [vset, h]
theorem pset_ne {P : PT} {a k b : Nat} {x : Option Nat} (h : b ≠ a) : pset P a k x b = P b := by funext j; simp [pset, h]
theorem vrow_ne {V : VT} {a b : Nat} {f : Nat → Int32} (h : b ≠ a) : vrow V a f b = V b := by simp [vrow, h]
theorem prow_ne {P : PT} {a b : Nat} {f : Nat → Option Nat} (h : b ≠ a) : prow P a f b = P b := by simp [prow, h]
theorem HR.put {D : va_G} {T : TT} {K : KT} {P P2 : PT} {V V2 : VT} {H H1 : Heap} (h : HR D T K P V H) {a : Nat} (oq : ∀ q : Nat, q ≠ a → H1[q]? = H[q]?) (hat : ∀ kd, K a = some kd → va_at D cls (a, cel T P2 V2 a kd) H1) (hP : ∀ b, b ≠ a → P2 b = P b) (hV : ∀ b, b ≠ a → V2 b = V b) : HR D T K P2 V2 H1 := by
  intro b kd hb
  by_cases hba : b = a
  · subst hba; exact hat kd hb
  · rw [cel_congr (hP b hba) (hV b hba)]
    exact (h b kd hb).kept (oq b hba)
/-! what the shallow functions are made of -/
section SH
variable {β : Type}
def gI (K : KT) (V : VT) (a ci k : Nat) (F : Int32 → Option β) : Option β := if K a = some (.inl ci) then F (V a k) else none
def gR (K : KT) (P : PT) (a ci k : Nat) (F : Nat → Option β) : Option β := if K a = some (.inl ci) then (match P a k with | some b => F b | none => none) else none
def sI (K : KT) (V : VT) (a ci k : Nat) (x : Int32) (F : VT → Option β) : Option β := if K a = some (.inl ci) then F (vset V a k x) else none
def sB (K : KT) (V : VT) (a ci k : Nat) (x : Int32) (F : VT → Option β) : Option β := if K a = some (.inl ci) ∧ (x = 0 ∨ x = 1) then F (vset V a k x) else none
def aI (K : KT) (V : VT) (t a : Nat) (i : Int32) (F : Int32 → Option β) : Option β := match K a with
  | some (.inr (u, n)) => if u = t ∧ 0 ≤ i ∧ i.toNatClampNeg < n then F (V a i.toNatClampNeg) else none
  | _ => none
def sA (K : KT) (V : VT) (a : Nat) (i x : Int32) (F : VT → Option β) : Option β := match K a with
  | some (.inr (u, n)) => if u = 0 ∧ 0 ≤ i ∧ i.toNatClampNeg < n then F (vset V a i.toNatClampNeg x) else none
  | _ => none
def sZ (K : KT) (V : VT) (a : Nat) (i x : Int32) (F : VT → Option β) : Option β := match K a with
  | some (.inr (u, n)) => if u = 1 ∧ (0 ≤ i ∧ i.toNatClampNeg < n) ∧ (x = 0 ∨ x = 1) then F (vset V a i.toNatClampNeg x) else none
  | _ => none
def aN (K : KT) (a : Nat) (F : Int32 → Option β) : Option β := match K a with
  | some (.inr (u, n)) => if u < 3 then F (nI n) else none
  | _ => none
def aQ (K : KT) (P : PT) (a : Nat) (i : Int32) (F : Nat → Option β) : Option β := match K a with
  | some (.inr (u, n)) => if u = 2 ∧ 0 ≤ i ∧ i.toNatClampNeg < n then (match P a i.toNatClampNeg with | some b => F b | none => none) else none
  | _ => none
def dG (y : Int32) (F : Option β) : Option β := if y = 0 then none else F
def rB (v : Int32) (V : VT) : Option (Int32 × VT) := if v = 0 ∨ v = 1 then some (v, V) else none
def cS {α : Type} (x : Option (α × VT)) (F : α → VT → Option β) : Option β := match x with | some (r, V) => F r V | none => none
def cV {α : Type} (K : KT) (a ci : Nat) (x : Option (α × VT)) (F : α → VT → Option β) : Option β := if K a = some (.inl ci) then cS x F else none
end SH
section RW
variable {g : GT} {R : Room} {Q : State → Prop} {nL : Nat} {K : KT} {P : PT} {V : VT} {n sl pc q : Nat} {L : List (Option Value)} {st : List Value} {own : String} {cc : ByteArray} {ret : Option FieldType} {β : Type} {res : β}
/-! constants, locals, stack -/
theorem j_iconst {z : Int} (v : Int32) (h : OK g own cc nL ret) (d : decode cc pc = .ok (.iconst z, 1)) (hv : Int32.ofInt z = v) (hq : pc + 1 = q) (k : J g R Q nL K P V n sl q L (.int v :: st)) : J g R Q nL K P V n sl pc L st := by
  obtain ⟨p, l, e, s, m, args, below, meth, c, D, T, A⟩ := g
  subst hq
  exact J.i fun H locs ls h1 h2 h3 h4 h5 => lv_iconst h.1 h.2.1 d hv (k.u h1 h2 h3 h4 h5)
theorem j_bipush {z : Int} (v : Int32) (h : OK g own cc nL ret) (d : decode cc pc = .ok (.bipush z, 2)) (hv : (Int8.ofInt z).toInt32 = v) (hq : pc + 2 = q) (k : J g R Q nL K P V n sl q L (.int v :: st)) : J g R Q nL K P V n sl pc L st := by
  obtain ⟨p, l, e, s, m, args, below, meth, c, D, T, A⟩ := g
  subst hq
  exact J.i fun H locs ls h1 h2 h3 h4 h5 => lv_bipush h.1 h.2.1 d hv (k.u h1 h2 h3 h4 h5)
theorem j_sipush {z : Int} (v : Int32) (h : OK g own cc nL ret) (d : decode cc pc = .ok (.sipush z, 3)) (hv : (Int16.ofInt z).toInt32 = v) (hq : pc + 3 = q) (k : J g R Q nL K P V n sl q L (.int v :: st)) : J g R Q nL K P V n sl pc L st := by
  obtain ⟨p, l, e, s, m, args, below, meth, c, D, T, A⟩ := g
  subst hq
  exact J.i fun H locs ls h1 h2 h3 h4 h5 => lv_sipush h.1 h.2.1 d hv (k.u h1 h2 h3 h4 h5)
theorem j_iload_n {k : Fin 4} {x : Int32} (h : OK g own cc nL ret) (d : decode cc pc = .ok (.iload_n k, 1)) (hk : L[(k : Nat)]? = some (some (.int x))) (hq : pc + 1 = q) (kk : J g R Q nL K P V n sl q L (.int x :: st)) : J g R Q nL K P V n sl pc L st := by
  obtain ⟨p, l, e, s, m, args, below, meth, c, D, T, A⟩ := g
  subst hq
  exact J.i fun H locs ls h1 h2 h3 h4 h5 => lv_iload_n h.1 h.2.1 d rfl (h5.2.2 _ _ hk) (kk.u h1 h2 h3 h4 h5)
theorem j_iload {i : Nat} {x : Int32} (h : OK g own cc nL ret) (d : decode cc pc = .ok (.iload i, 2)) (hk : L[i]? = some (some (.int x))) (hq : pc + 2 = q) (kk : J g R Q nL K P V n sl q L (.int x :: st)) : J g R Q nL K P V n sl pc L st := by
  obtain ⟨p, l, e, s, m, args, below, meth, c, D, T, A⟩ := g
  subst hq
  exact J.i fun H locs ls h1 h2 h3 h4 h5 => lv_iload h.1 h.2.1 d (h5.2.2 _ _ hk) (kk.u h1 h2 h3 h4 h5)
theorem j_aload_n {k : Fin 4} {x : Nat} (h : OK g own cc nL ret) (d : decode cc pc = .ok (.aload_n k, 1)) (hk : L[(k : Nat)]? = some (some (.ref x))) (hq : pc + 1 = q) (kk : J g R Q nL K P V n sl q L (.ref x :: st)) : J g R Q nL K P V n sl pc L st := by
  obtain ⟨p, l, e, s, m, args, below, meth, c, D, T, A⟩ := g
  subst hq
  exact J.i fun H locs ls h1 h2 h3 h4 h5 => lv_aload_n h.1 h.2.1 d rfl (h5.2.2 _ _ hk) (kk.u h1 h2 h3 h4 h5)
theorem j_aload {i : Nat} {x : Nat} (h : OK g own cc nL ret) (d : decode cc pc = .ok (.aload i, 2)) (hk : L[i]? = some (some (.ref x))) (hq : pc + 2 = q) (kk : J g R Q nL K P V n sl q L (.ref x :: st)) : J g R Q nL K P V n sl pc L st := by
  obtain ⟨p, l, e, s, m, args, below, meth, c, D, T, A⟩ := g
  subst hq
  exact J.i fun H locs ls h1 h2 h3 h4 h5 => lv_aload h.1 h.2.1 d (h5.2.2 _ _ hk) (kk.u h1 h2 h3 h4 h5)
theorem j_istore_n {k : Fin 4} {x : Int32} (L2 : List (Option Value)) (h : OK g own cc nL ret) (d : decode cc pc = .ok (.istore_n k, 1)) (hc : c1 L = true) (hn : (k : Nat) < nL) (h2 : lput L (k : Nat) (.int x) L2) (hq : pc + 1 = q) (kk : J g R Q nL K P V n sl q L2 st) : J g R Q nL K P V n sl pc L (.int x :: st) := by
  obtain ⟨p, l, e, s, m, args, below, meth, c, D, T, A⟩ := g
  subst hq
  exact J.i fun H locs ls h1 h2' h3 h4 h5 => lv_istore_n h.1 h.2.1 d rfl h5.has hn rfl (fun ls' h' => kk.u h1 h2' h3 h4 (lvO.store (c1.ok hc) h2 h'))
theorem j_istore {i : Nat} {x : Int32} (L2 : List (Option Value)) (h : OK g own cc nL ret) (d : decode cc pc = .ok (.istore i, 2)) (hc : c1 L = true) (hn : i < nL) (h2 : lput L i (.int x) L2) (hq : pc + 2 = q) (kk : J g R Q nL K P V n sl q L2 st) : J g R Q nL K P V n sl pc L (.int x :: st) := by
  obtain ⟨p, l, e, s, m, args, below, meth, c, D, T, A⟩ := g
  subst hq
  exact J.i fun H locs ls h1 h2' h3 h4 h5 => lv_istore h.1 h.2.1 d h5.has hn rfl (fun ls' h' => kk.u h1 h2' h3 h4 (lvO.store (c1.ok hc) h2 h'))
theorem j_astore_n {k : Fin 4} {x : Nat} (L2 : List (Option Value)) (h : OK g own cc nL ret) (d : decode cc pc = .ok (.astore_n k, 1)) (hc : c1 L = true) (hn : (k : Nat) < nL) (h2 : lput L (k : Nat) (.ref x) L2) (hq : pc + 1 = q) (kk : J g R Q nL K P V n sl q L2 st) : J g R Q nL K P V n sl pc L (.ref x :: st) := by
  obtain ⟨p, l, e, s, m, args, below, meth, c, D, T, A⟩ := g
  subst hq
  exact J.i fun H locs ls h1 h2' h3 h4 h5 => lv_astore_n h.1 h.2.1 d rfl h5.has hn rfl (fun ls' h' => kk.u h1 h2' h3 h4 (lvO.store (c1.ok hc) h2 h'))
theorem j_astore {i : Nat} {x : Nat} (L2 : List (Option Value)) (h : OK g own cc nL ret) (d : decode cc pc = .ok (.astore i, 2)) (hc : c1 L = true) (hn : i < nL) (h2 : lput L i (.ref x) L2) (hq : pc + 2 = q) (kk : J g R Q nL K P V n sl q L2 st) : J g R Q nL K P V n sl pc L (.ref x :: st) := by
  obtain ⟨p, l, e, s, m, args, below, meth, c, D, T, A⟩ := g
  subst hq
  exact J.i fun H locs ls h1 h2' h3 h4 h5 => lv_astore h.1 h.2.1 d h5.has hn rfl (fun ls' h' => kk.u h1 h2' h3 h4 (lvO.store (c1.ok hc) h2 h'))
theorem j_iinc {i : Nat} {z : Int} {x : Int32} (v : Int32) (L2 : List (Option Value)) (h : OK g own cc nL ret) (d : decode cc pc = .ok (.iinc i z, 3)) (hc : c1 L = true) (hn : i < nL) (hk : L[i]? = some (some (.int x))) (hv : x + Int32.ofInt z = v) (h2 : lput L i (.int v) L2) (hq : pc + 3 = q) (kk : J g R Q nL K P V n sl q L2 st) : J g R Q nL K P V n sl pc L st := by
  obtain ⟨p, l, e, s, m, args, below, meth, c, D, T, A⟩ := g
  subst hq
  refine J.i fun H locs ls h1 h2' h3 h4 h5 => ?_
  obtain ⟨j, hj⟩ := List.getElem?_of_mem (lvO.mem hk)
  exact lv_iinc h.1 h.2.1 d h5.has (k := j) hj hv hn rfl (fun ls' h' => kk.u h1 h2' h3 h4 (lvO.store (c1.ok hc) h2 h'))
theorem j_dup {v : Value} (h : OK g own cc nL ret) (d : decode cc pc = .ok (.dup, 1)) (hv : v.category = 1) (hq : pc + 1 = q) (kk : J g R Q nL K P V n sl q L (v :: v :: st)) : J g R Q nL K P V n sl pc L (v :: st) := by
  obtain ⟨p, l, e, s, m, args, below, meth, c, D, T, A⟩ := g
  subst hq
  exact J.i fun H locs ls h1 h2 h3 h4 h5 => lv_dup h.1 h.2.1 d hv (kk.u h1 h2 h3 h4 h5)
theorem j_pop {v : Value} (h : OK g own cc nL ret) (d : decode cc pc = .ok (.pop, 1)) (hv : v.category = 1) (hq : pc + 1 = q) (kk : J g R Q nL K P V n sl q L st) : J g R Q nL K P V n sl pc L (v :: st) := by
  obtain ⟨p, l, e, s, m, args, below, meth, c, D, T, A⟩ := g
  subst hq
  exact J.i fun H locs ls h1 h2 h3 h4 h5 => lv_pop h.1 h.2.1 d hv (kk.u h1 h2 h3 h4 h5)
/-! numbers -/
theorem j_iadd {x y : Int32} (h : OK g own cc nL ret) (d : decode cc pc = .ok (.iadd, 1)) (hq : pc + 1 = q) (kk : J g R Q nL K P V n sl q L (.int (x + y) :: st)) : J g R Q nL K P V n sl pc L (.int y :: .int x :: st) := by
  obtain ⟨p, l, e, s, m, args, below, meth, c, D, T, A⟩ := g
  subst hq
  exact J.i fun H locs ls h1 h2 h3 h4 h5 => lv_iadd h.1 h.2.1 d (kk.u h1 h2 h3 h4 h5)
theorem j_isub {x y : Int32} (h : OK g own cc nL ret) (d : decode cc pc = .ok (.isub, 1)) (hq : pc + 1 = q) (kk : J g R Q nL K P V n sl q L (.int (x - y) :: st)) : J g R Q nL K P V n sl pc L (.int y :: .int x :: st) := by
  obtain ⟨p, l, e, s, m, args, below, meth, c, D, T, A⟩ := g
  subst hq
  exact J.i fun H locs ls h1 h2 h3 h4 h5 => lv_isub h.1 h.2.1 d (kk.u h1 h2 h3 h4 h5)
theorem j_imul {x y : Int32} (h : OK g own cc nL ret) (d : decode cc pc = .ok (.imul, 1)) (hq : pc + 1 = q) (kk : J g R Q nL K P V n sl q L (.int (x * y) :: st)) : J g R Q nL K P V n sl pc L (.int y :: .int x :: st) := by
  obtain ⟨p, l, e, s, m, args, below, meth, c, D, T, A⟩ := g
  subst hq
  exact J.i fun H locs ls h1 h2 h3 h4 h5 => lv_imul h.1 h.2.1 d (kk.u h1 h2 h3 h4 h5)
theorem j_iand {x y : Int32} (h : OK g own cc nL ret) (d : decode cc pc = .ok (.iand, 1)) (hq : pc + 1 = q) (kk : J g R Q nL K P V n sl q L (.int (x &&& y) :: st)) : J g R Q nL K P V n sl pc L (.int y :: .int x :: st) := by
  obtain ⟨p, l, e, s, m, args, below, meth, c, D, T, A⟩ := g
  subst hq
  exact J.i fun H locs ls h1 h2 h3 h4 h5 => lv_iand h.1 h.2.1 d (kk.u h1 h2 h3 h4 h5)
theorem j_ishr {x y : Int32} (h : OK g own cc nL ret) (d : decode cc pc = .ok (.ishr, 1)) (hq : pc + 1 = q) (kk : J g R Q nL K P V n sl q L (.int (x >>> (y &&& 31)) :: st)) : J g R Q nL K P V n sl pc L (.int y :: .int x :: st) := by
  obtain ⟨p, l, e, s, m, args, below, meth, c, D, T, A⟩ := g
  subst hq
  exact J.i fun H locs ls h1 h2 h3 h4 h5 => lv_ishr h.1 h.2.1 d (kk.u h1 h2 h3 h4 h5)
theorem j_idiv {x y : Int32} {F : Option β} (h : OK g own cc nL ret) (d : decode cc pc = .ok (.idiv, 1)) (hq : pc + 1 = q) (hf : dG y F = some res) (kk : F = some res → J g R Q nL K P V n sl q L (.int (x / y) :: st)) : J g R Q nL K P V n sl pc L (.int y :: .int x :: st) := by
  obtain ⟨p, l, e, s, m, args, below, meth, c, D, T, A⟩ := g
  subst hq
  unfold dG at hf
  split at hf
  · cases hf
  · rename_i hne
    exact J.i fun H locs ls h1 h2 h3 h4 h5 => lv_idiv h.1 h.2.1 d hne ((kk hf).u h1 h2 h3 h4 h5)
theorem j_irem {x y : Int32} {F : Option β} (h : OK g own cc nL ret) (d : decode cc pc = .ok (.irem, 1)) (hq : pc + 1 = q) (hf : dG y F = some res) (kk : F = some res → J g R Q nL K P V n sl q L (.int (x - x / y * y) :: st)) : J g R Q nL K P V n sl pc L (.int y :: .int x :: st) := by
  obtain ⟨p, l, e, s, m, args, below, meth, c, D, T, A⟩ := g
  subst hq
  unfold dG at hf
  split at hf
  · cases hf
  · rename_i hne
    exact J.i fun H locs ls h1 h2 h3 h4 h5 => lv_irem h.1 h.2.1 d hne ((kk hf).u h1 h2 h3 h4 h5)
/-! branches: conditions are x < y, x = y alone -/
theorem j_goto {off : Int} (tgt : Nat) (h : OK g own cc nL ret) (d : decode cc pc = .ok (.goto off, 3)) (ht : (pc : Int) + off = (tgt : Int)) (kk : J g R Q nL K P V n sl tgt L st) : J g R Q nL K P V n sl pc L st := by
  obtain ⟨p, l, e, s, m, args, below, meth, c, D, T, A⟩ := g
  exact J.i fun H locs ls h1 h2 h3 h4 h5 => lv_goto h.1 h.2.1 d ht (kk.u h1 h2 h3 h4 h5)
theorem j_icmp_lt {x y : Int32} {off : Int} {FA FB : Option β} (tgt : Nat) (h : OK g own cc nL ret) (d : decode cc pc = .ok (.if_icmp .lt off, 3)) (ht : (pc : Int) + off = (tgt : Int)) (hq : pc + 3 = q) (hf : (if x < y then FA else FB) = some res) (kt : FA = some res → J g R Q nL K P V n sl tgt L st) (kf : FB = some res → J g R Q nL K P V n sl q L st) : J g R Q nL K P V n sl pc L (.int y :: .int x :: st) := by
  obtain ⟨p, l, e, s, m, args, below, meth, c, D, T, A⟩ := g
  subst hq
  exact J.i fun H locs ls h1 h2 h3 h4 h5 => lv_icmp_lt h.1 h.2.1 d ht (fun z => (kt (by rw [if_pos z] at hf; exact hf)).u h1 h2 h3 h4 h5) (fun z => (kf (by rw [if_neg z] at hf; exact hf)).u h1 h2 h3 h4 h5)
theorem j_icmp_ge {x y : Int32} {off : Int} {FA FB : Option β} (tgt : Nat) (h : OK g own cc nL ret) (d : decode cc pc = .ok (.if_icmp .ge off, 3)) (ht : (pc : Int) + off = (tgt : Int)) (hq : pc + 3 = q) (hf : (if x < y then FA else FB) = some res) (kt : FB = some res → J g R Q nL K P V n sl tgt L st) (kf : FA = some res → J g R Q nL K P V n sl q L st) : J g R Q nL K P V n sl pc L (.int y :: .int x :: st) := by
  obtain ⟨p, l, e, s, m, args, below, meth, c, D, T, A⟩ := g
  subst hq
  exact J.i fun H locs ls h1 h2 h3 h4 h5 => lv_icmp_ge h.1 h.2.1 d ht (fun z => (kt (by rw [if_neg (Int32.not_lt.mpr z)] at hf; exact hf)).u h1 h2 h3 h4 h5) (fun z => (kf (by rw [if_pos (Int32.not_le.mp z)] at hf; exact hf)).u h1 h2 h3 h4 h5)
theorem j_icmp_gt {x y : Int32} {off : Int} {FA FB : Option β} (tgt : Nat) (h : OK g own cc nL ret) (d : decode cc pc = .ok (.if_icmp .gt off, 3)) (ht : (pc : Int) + off = (tgt : Int)) (hq : pc + 3 = q) (hf : (if y < x then FA else FB) = some res) (kt : FA = some res → J g R Q nL K P V n sl tgt L st) (kf : FB = some res → J g R Q nL K P V n sl q L st) : J g R Q nL K P V n sl pc L (.int y :: .int x :: st) := by
  obtain ⟨p, l, e, s, m, args, below, meth, c, D, T, A⟩ := g
  subst hq
  exact J.i fun H locs ls h1 h2 h3 h4 h5 => lv_icmp_gt h.1 h.2.1 d ht (fun z => (kt (by rw [if_pos z] at hf; exact hf)).u h1 h2 h3 h4 h5) (fun z => (kf (by rw [if_neg z] at hf; exact hf)).u h1 h2 h3 h4 h5)
theorem j_icmp_le {x y : Int32} {off : Int} {FA FB : Option β} (tgt : Nat) (h : OK g own cc nL ret) (d : decode cc pc = .ok (.if_icmp .le off, 3)) (ht : (pc : Int) + off = (tgt : Int)) (hq : pc + 3 = q) (hf : (if y < x then FA else FB) = some res) (kt : FB = some res → J g R Q nL K P V n sl tgt L st) (kf : FA = some res → J g R Q nL K P V n sl q L st) : J g R Q nL K P V n sl pc L (.int y :: .int x :: st) := by
  obtain ⟨p, l, e, s, m, args, below, meth, c, D, T, A⟩ := g
  subst hq
  exact J.i fun H locs ls h1 h2 h3 h4 h5 => lv_icmp_le h.1 h.2.1 d ht (fun z => (kt (by rw [if_neg (Int32.not_lt.mpr z)] at hf; exact hf)).u h1 h2 h3 h4 h5) (fun z => (kf (by rw [if_pos (Int32.not_le.mp z)] at hf; exact hf)).u h1 h2 h3 h4 h5)
theorem j_icmp_eq {x y : Int32} {off : Int} {FA FB : Option β} (tgt : Nat) (h : OK g own cc nL ret) (d : decode cc pc = .ok (.if_icmp .eq off, 3)) (ht : (pc : Int) + off = (tgt : Int)) (hq : pc + 3 = q) (hf : (if x = y then FA else FB) = some res) (kt : FA = some res → J g R Q nL K P V n sl tgt L st) (kf : FB = some res → J g R Q nL K P V n sl q L st) : J g R Q nL K P V n sl pc L (.int y :: .int x :: st) := by
  obtain ⟨p, l, e, s, m, args, below, meth, c, D, T, A⟩ := g
  subst hq
  exact J.i fun H locs ls h1 h2 h3 h4 h5 => lv_icmp_eq h.1 h.2.1 d ht (fun z => (kt (by rw [if_pos z] at hf; exact hf)).u h1 h2 h3 h4 h5) (fun z => (kf (by rw [if_neg z] at hf; exact hf)).u h1 h2 h3 h4 h5)
theorem j_icmp_ne {x y : Int32} {off : Int} {FA FB : Option β} (tgt : Nat) (h : OK g own cc nL ret) (d : decode cc pc = .ok (.if_icmp .ne off, 3)) (ht : (pc : Int) + off = (tgt : Int)) (hq : pc + 3 = q) (hf : (if x = y then FA else FB) = some res) (kt : FB = some res → J g R Q nL K P V n sl tgt L st) (kf : FA = some res → J g R Q nL K P V n sl q L st) : J g R Q nL K P V n sl pc L (.int y :: .int x :: st) := by
  obtain ⟨p, l, e, s, m, args, below, meth, c, D, T, A⟩ := g
  subst hq
  exact J.i fun H locs ls h1 h2 h3 h4 h5 => lv_icmp_ne h.1 h.2.1 d ht (fun z => (kt (by rw [if_neg z] at hf; exact hf)).u h1 h2 h3 h4 h5) (fun z => (kf (by rw [if_pos z] at hf; exact hf)).u h1 h2 h3 h4 h5)
theorem j_if_lt {x : Int32} {off : Int} {FA FB : Option β} (tgt : Nat) (h : OK g own cc nL ret) (d : decode cc pc = .ok (.ifCond .lt off, 3)) (ht : (pc : Int) + off = (tgt : Int)) (hq : pc + 3 = q) (hf : (if x < 0 then FA else FB) = some res) (kt : FA = some res → J g R Q nL K P V n sl tgt L st) (kf : FB = some res → J g R Q nL K P V n sl q L st) : J g R Q nL K P V n sl pc L (.int x :: st) := by
  obtain ⟨p, l, e, s, m, args, below, meth, c, D, T, A⟩ := g
  subst hq
  exact J.i fun H locs ls h1 h2 h3 h4 h5 => lv_if_lt h.1 h.2.1 d ht (fun z => (kt (by rw [if_pos z] at hf; exact hf)).u h1 h2 h3 h4 h5) (fun z => (kf (by rw [if_neg z] at hf; exact hf)).u h1 h2 h3 h4 h5)
theorem j_if_ge {x : Int32} {off : Int} {FA FB : Option β} (tgt : Nat) (h : OK g own cc nL ret) (d : decode cc pc = .ok (.ifCond .ge off, 3)) (ht : (pc : Int) + off = (tgt : Int)) (hq : pc + 3 = q) (hf : (if x < 0 then FA else FB) = some res) (kt : FB = some res → J g R Q nL K P V n sl tgt L st) (kf : FA = some res → J g R Q nL K P V n sl q L st) : J g R Q nL K P V n sl pc L (.int x :: st) := by
  obtain ⟨p, l, e, s, m, args, below, meth, c, D, T, A⟩ := g
  subst hq
  exact J.i fun H locs ls h1 h2 h3 h4 h5 => lv_if_ge h.1 h.2.1 d ht (fun z => (kt (by rw [if_neg (Int32.not_lt.mpr z)] at hf; exact hf)).u h1 h2 h3 h4 h5) (fun z => (kf (by rw [if_pos (Int32.not_le.mp z)] at hf; exact hf)).u h1 h2 h3 h4 h5)
theorem j_if_gt {x : Int32} {off : Int} {FA FB : Option β} (tgt : Nat) (h : OK g own cc nL ret) (d : decode cc pc = .ok (.ifCond .gt off, 3)) (ht : (pc : Int) + off = (tgt : Int)) (hq : pc + 3 = q) (hf : (if 0 < x then FA else FB) = some res) (kt : FA = some res → J g R Q nL K P V n sl tgt L st) (kf : FB = some res → J g R Q nL K P V n sl q L st) : J g R Q nL K P V n sl pc L (.int x :: st) := by
  obtain ⟨p, l, e, s, m, args, below, meth, c, D, T, A⟩ := g
  subst hq
  exact J.i fun H locs ls h1 h2 h3 h4 h5 => lv_if_gt h.1 h.2.1 d ht (fun z => (kt (by rw [if_pos z] at hf; exact hf)).u h1 h2 h3 h4 h5) (fun z => (kf (by rw [if_neg z] at hf; exact hf)).u h1 h2 h3 h4 h5)
theorem j_if_le {x : Int32} {off : Int} {FA FB : Option β} (tgt : Nat) (h : OK g own cc nL ret) (d : decode cc pc = .ok (.ifCond .le off, 3)) (ht : (pc : Int) + off = (tgt : Int)) (hq : pc + 3 = q) (hf : (if 0 < x then FA else FB) = some res) (kt : FB = some res → J g R Q nL K P V n sl tgt L st) (kf : FA = some res → J g R Q nL K P V n sl q L st) : J g R Q nL K P V n sl pc L (.int x :: st) := by
  obtain ⟨p, l, e, s, m, args, below, meth, c, D, T, A⟩ := g
  subst hq
  exact J.i fun H locs ls h1 h2 h3 h4 h5 => lv_if_le h.1 h.2.1 d ht (fun z => (kt (by rw [if_neg (Int32.not_lt.mpr z)] at hf; exact hf)).u h1 h2 h3 h4 h5) (fun z => (kf (by rw [if_pos (Int32.not_le.mp z)] at hf; exact hf)).u h1 h2 h3 h4 h5)
theorem j_if_eq {x : Int32} {off : Int} {FA FB : Option β} (tgt : Nat) (h : OK g own cc nL ret) (d : decode cc pc = .ok (.ifCond .eq off, 3)) (ht : (pc : Int) + off = (tgt : Int)) (hq : pc + 3 = q) (hf : (if x = 0 then FA else FB) = some res) (kt : FA = some res → J g R Q nL K P V n sl tgt L st) (kf : FB = some res → J g R Q nL K P V n sl q L st) : J g R Q nL K P V n sl pc L (.int x :: st) := by
  obtain ⟨p, l, e, s, m, args, below, meth, c, D, T, A⟩ := g
  subst hq
  exact J.i fun H locs ls h1 h2 h3 h4 h5 => lv_if_eq h.1 h.2.1 d ht (fun z => (kt (by rw [if_pos z] at hf; exact hf)).u h1 h2 h3 h4 h5) (fun z => (kf (by rw [if_neg z] at hf; exact hf)).u h1 h2 h3 h4 h5)
theorem j_if_ne {x : Int32} {off : Int} {FA FB : Option β} (tgt : Nat) (h : OK g own cc nL ret) (d : decode cc pc = .ok (.ifCond .ne off, 3)) (ht : (pc : Int) + off = (tgt : Int)) (hq : pc + 3 = q) (hf : (if x = 0 then FA else FB) = some res) (kt : FB = some res → J g R Q nL K P V n sl tgt L st) (kf : FA = some res → J g R Q nL K P V n sl q L st) : J g R Q nL K P V n sl pc L (.int x :: st) := by
  obtain ⟨p, l, e, s, m, args, below, meth, c, D, T, A⟩ := g
  subst hq
  exact J.i fun H locs ls h1 h2 h3 h4 h5 => lv_if_ne h.1 h.2.1 d ht (fun z => (kt (by rw [if_neg z] at hf; exact hf)).u h1 h2 h3 h4 h5) (fun z => (kf (by rw [if_pos z] at hf; exact hf)).u h1 h2 h3 h4 h5)
/-! fields and arrays -/
section FA
variable {ci k index N : Nat} {C : String} {Tt : u_T}
theorem j_gI {a : Nat} {F : Int32 → Option β} (h : OK g own cc nL ret) (hin : ∀ w ∈ u_ws C Tt N, w ∈ TBL) (hc : cls[ci]? = some (C, Tt, N)) (hN : nF ci = N) (hk : k < N) (hr : isR ci k = false) (hlk : Cond.fieldLink own index (Tt k).1 (Tt k).2.1 (Tt k).2.2.1 ∈ TBL) (d : decode cc pc = .ok (.getfield index, 3)) (hq : pc + 3 = q) (hf : gI K V a ci k F = some res) (kk : F (V a k) = some res → J g R Q nL K P V n sl q L (.int (V a k) :: st)) : J g R Q nL K P V n sl pc L (.ref a :: st) := by
  obtain ⟨p, l, e, s, m, args, below, meth, c, D, T, A⟩ := g
  subst hq
  unfold gI at hf
  split at hf
  · rename_i hKa
    obtain ⟨hx, hb, hml, ho, hts, hK, -⟩ := h
    refine J.i fun H locs ls h1 h2 h3 h4 h5 => ?_
    exact va_get (D := D) (ci := ci) (v := .int (V a k)) (C := C) (T := Tt) (N := N) hx hb hts hin ho hK (h1.one hKa) 0 (fs := flds ci P V a) rfl hc k hk (hts _ hlk) (fun _ h9 => h9) (by rw [flds_get P V a (by rw [hN]; exact hk), hr]; rfl) d ((kk hf).u h1 h2 h3 h4 h5)
  · cases hf
theorem j_gR {a : Nat} {F : Nat → Option β} (h : OK g own cc nL ret) (hin : ∀ w ∈ u_ws C Tt N, w ∈ TBL) (hc : cls[ci]? = some (C, Tt, N)) (hN : nF ci = N) (hk : k < N) (hr : isR ci k = true) (hlk : Cond.fieldLink own index (Tt k).1 (Tt k).2.1 (Tt k).2.2.1 ∈ TBL) (d : decode cc pc = .ok (.getfield index, 3)) (hq : pc + 3 = q) (hf : gR K P a ci k F = some res) (kk : ∀ b : Nat, F b = some res → J g R Q nL K P V n sl q L (.ref b :: st)) : J g R Q nL K P V n sl pc L (.ref a :: st) := by
  obtain ⟨p, l, e, s, m, args, below, meth, c, D, T, A⟩ := g
  subst hq
  unfold gR at hf
  split at hf
  · rename_i hKa
    cases hb' : P a k with
    | none => rw [hb'] at hf; cases hf
    | some b =>
      rw [hb'] at hf
      obtain ⟨hx, hb, hml, ho, hts, hK, -⟩ := h
      refine J.i fun H locs ls h1 h2 h3 h4 h5 => ?_
      exact va_get (D := D) (ci := ci) (v := .ref b) (C := C) (T := Tt) (N := N) hx hb hts hin ho hK (h1.one hKa) 0 (fs := flds ci P V a) rfl hc k hk (hts _ hlk) (fun _ h9 => h9) (by rw [flds_get P V a (by rw [hN]; exact hk), hr, hb']; rfl) d ((kk b hf).u h1 h2 h3 h4 h5)
  · cases hf
/-- the heap behind a put of field k -/
theorem put_at {D : va_G} {T : TT} {H1 : Heap} {a : Nat} {x : Value} {P2 : PT} {V2 : VT} {cell : Cell} (hap : ∀ x y, x < N → y < N → x ≠ y → (D.2 ci) x ≠ (D.2 ci) y) (hc : cls[ci]? = some (C, Tt, N)) (hN : nF ci = N) (hk : k < N) (q2 : cell.cls = D.1 ci) (q3 : cell.vm = .none) (q4 : ∀ k, k < N → cell.slots[(D.2 ci) k]? = some (vp_V (flds ci P V a) k)) (e1 : H1[a]? = some (cell.setSlot ((D.2 ci) k) x)) (hv : ∀ j, j < N → vp_V (flds ci P2 V2 a) j = updV (vp_V (flds ci P V a)) k x j) : va_at D cls (a, cel T P2 V2 a (.inl ci)) H1 :=
  ⟨_, hc, t_OB.to (V := updV (vp_V (flds ci P V a)) k x) ⟨_, e1, q2, q3, t_set q4 hap hk x⟩ (fun j hj => (hv j hj).symm)⟩
theorem flds_vset (a : Nat) (x : Int32) (hr : isR ci k = false) (j : Nat) (hj : j < nF ci) : vp_V (flds ci P (vset V a k x) a) j = updV (vp_V (flds ci P V a)) k (.int x) j := by
  unfold updV
  by_cases hjk : j = k
  · subst hjk
    rw [if_pos rfl, vp_flds _ _ _ hj, hr]
    simp [vset]
  · rw [if_neg hjk, vp_flds _ _ _ hj, vp_flds _ _ _ hj]
    simp [vset, hjk]
theorem flds_pset (a : Nat) (x : Option Nat) (hr : isR ci k = true) (j : Nat) (hj : j < nF ci) : vp_V (flds ci (pset P a k x) V a) j = updV (vp_V (flds ci P V a)) k (va_rf x) j := by
  unfold updV
  by_cases hjk : j = k
  · subst hjk
    rw [if_pos rfl, vp_flds _ _ _ hj, hr]
    simp [pset]
  · rw [if_neg hjk, vp_flds _ _ _ hj, vp_flds _ _ _ hj]
    simp [pset, hjk]
theorem j_put {a : Nat} {ty : FieldType} {v : Value} (P2 : PT) (V2 : VT) (h : OK g own cc nL ret) (ty0 : Nat → FieldType) (hty : ∀ k, k < N → parseFieldDescriptor (Tt k).2.2.1 = some (ty0 k)) (hnm : ∀ a, a < N → ∀ b, b < N → a ≠ b → (Tt a).2.1 ≠ (Tt b).2.1) (hin : ∀ w ∈ u_ws C Tt N, w ∈ TBL) (hc : cls[ci]? = some (C, Tt, N)) (hN : nF ci = N) (hk : k < N) (hfin : (Tt k).2.2.2 = false) (hd : parseFieldDescriptor (Tt k).2.2.1 = some ty) (hn : narrow ty v = v) (hfit : fits ty v = true) (hlk : Cond.fieldLink own index (Tt k).1 (Tt k).2.1 (Tt k).2.2.1 ∈ TBL) (d : decode cc pc = .ok (.putfield index, 3)) (hq : pc + 3 = q) (hKa : K a = some (.inl ci)) (hP2 : ∀ b, b ≠ a → P2 b = P b) (hV2 : ∀ b, b ≠ a → V2 b = V b) (hv : ∀ j, j < nF ci → vp_V (flds ci P2 V2 a) j = updV (vp_V (flds ci P V a)) k v j) (kk : J g R Q nL K P2 V2 n sl q L st) : J g R Q nL K P V n sl pc L (v :: .ref a :: st) := by
  obtain ⟨p, l, e, s, m, args, below, meth, c, D, T, A⟩ := g
  subst hq
  obtain ⟨hx, hb, hml, ho, hts, hK, -⟩ := h
  refine J.i fun H locs ls h1 h2 h3 h4 h5 => ?_
  have hap := va_apart (own := own) hts hin ty0 hty hnm hK hc
  obtain ⟨r, h1', cell, q1, q2, q3, q4⟩ := h1 a _ hKa
  have hr : r = (C, Tt, N) := Option.some.inj (h1'.symm.trans hc)
  subst hr
  obtain ⟨hS, hfc, kC, hkC, hkind⟩ := hK.1 ci _ hc
  obtain ⟨cf, kf, fi, f, hi, hsl⟩ := hS k hk
  have hlay := hts _ (hin _ (u_in_lay hk))
  unfold u_lay at hlay
  rw [if_neg (by rw [hfin]; decide)] at hlay
  have hst := (u_facts hfc hkC (u_lays hts hin hk) hi).1
  have h6 := u_store hfc hkC hkind hlay hi hd hn hfit
  refine W.putK hx hb (f := f) ⟨ho, hts _ hlk, ⟨_, _, _, hi⟩, hst⟩ (by rw [q2]; exact h6) q1 q3 (by rw [hsl]; exact k2_hasslot (q4 k hk)) rfl rfl d fun H' e1 e2 e3 => ?_
  rw [hsl] at e1 ⊢
  refine kk.u (h1.put e3 (fun kd hkd => ?_) hP2 hV2) (h2.put e2 e3 (h4 a (by rw [hKa]; exact fun z => by cases z))) (by rw [e2]; exact h3) h4 h5
  rw [hKa] at hkd
  cases hkd
  exact put_at hap hc hN hk q2 q3 q4 e1 (fun j hj => hv j (by rw [hN]; exact hj))
theorem j_putF {a : Nat} {ty : FieldType} {v : Value} (P2 : PT) (V2 : VT) (h : OK g own cc nL ret) (hini : INI g) (ty0 : Nat → FieldType) (hty : ∀ k, k < N → parseFieldDescriptor (Tt k).2.2.1 = some (ty0 k)) (hnm : ∀ a, a < N → ∀ b, b < N → a ≠ b → (Tt a).2.1 ≠ (Tt b).2.1) (hin : ∀ w ∈ u_ws C Tt N, w ∈ TBL) (hc : cls[ci]? = some (C, Tt, N)) (hN : nF ci = N) (hk : k < N) (hfin : (Tt k).2.2.2 = true) (hdecl : (Tt k).1 = own) (hd : parseFieldDescriptor (Tt k).2.2.1 = some ty) (hn : narrow ty v = v) (hfit : fits ty v = true) (hlk : Cond.fieldLink own index (Tt k).1 (Tt k).2.1 (Tt k).2.2.1 ∈ TBL) (d : decode cc pc = .ok (.putfield index, 3)) (hq : pc + 3 = q) (hKa : K a = some (.inl ci)) (hP2 : ∀ b, b ≠ a → P2 b = P b) (hV2 : ∀ b, b ≠ a → V2 b = V b) (hv : ∀ j, j < nF ci → vp_V (flds ci P2 V2 a) j = updV (vp_V (flds ci P V a)) k v j) (kk : J g R Q nL K P2 V2 n sl q L st) : J g R Q nL K P V n sl pc L (v :: .ref a :: st) := by
  obtain ⟨p, l, e, s, m, args, below, meth, c, D, T, A⟩ := g
  subst hq
  obtain ⟨hx, hb, hml, ho, hts, hK, -⟩ := h
  refine J.i fun H locs ls h1 h2 h3 h4 h5 => ?_
  have hap := va_apart (own := own) hts hin ty0 hty hnm hK hc
  obtain ⟨r, h1', cell, q1, q2, q3, q4⟩ := h1 a _ hKa
  have hr : r = (C, Tt, N) := Option.some.inj (h1'.symm.trans hc)
  subst hr
  obtain ⟨hS, hfc, kC, hkC, hkind⟩ := hK.1 ci _ hc
  obtain ⟨cf, kf, fi, f, hi, hsl⟩ := hS k hk
  have hlay := hts _ (hin _ (u_in_lay hk))
  unfold u_lay at hlay
  rw [if_pos hfin] at hlay
  have hst := (u_facts hfc hkC (u_lays hts hin hk) hi).1
  have hcf : m.cls = cf := by
    obtain ⟨_, _, c', _, _, _, -, -, hf', -, -, -, hown2, -⟩ := Cond.laysFinal_spec hlay
    have e1 : c' = cf := by have := hi.symm.trans hf'; simp at this; exact this.1.symm
    rw [hdecl] at hown2
    rw [← e1]; exact Option.some.inj (ho.symm.trans hown2)
  have h6 := u_fits hfc hkC hkind (Or.inr hlay) hi hd hn hfit
  refine W.putFinK hx hb ho (hts _ hlk) hi hst hcf hini (by rw [q2]; exact h6) q1 q3 (by rw [hsl]; exact k2_hasslot (q4 k hk)) rfl rfl d fun H' e1 e2 e3 => ?_
  rw [hsl] at e1 ⊢
  refine kk.u (h1.put e3 (fun kd hkd => ?_) hP2 hV2) (h2.put e2 e3 (h4 a (by rw [hKa]; exact fun z => by cases z))) (by rw [e2]; exact h3) h4 h5
  rw [hKa] at hkd
  cases hkd
  exact put_at hap hc hN hk q2 q3 q4 e1 (fun j hj => hv j (by rw [hN]; exact hj))
theorem j_sI {a : Nat} {x : Int32} {F : VT → Option β} (h : OK g own cc nL ret) (ty0 : Nat → FieldType) (hty : ∀ k, k < N → parseFieldDescriptor (Tt k).2.2.1 = some (ty0 k)) (hnm : ∀ a, a < N → ∀ b, b < N → a ≠ b → (Tt a).2.1 ≠ (Tt b).2.1) (hin : ∀ w ∈ u_ws C Tt N, w ∈ TBL) (hc : cls[ci]? = some (C, Tt, N)) (hN : nF ci = N) (hk : k < N) (hr : isR ci k = false) (hfin : (Tt k).2.2.2 = false) (hd : parseFieldDescriptor (Tt k).2.2.1 = some .int) (hlk : Cond.fieldLink own index (Tt k).1 (Tt k).2.1 (Tt k).2.2.1 ∈ TBL) (d : decode cc pc = .ok (.putfield index, 3)) (hq : pc + 3 = q) (hf : sI K V a ci k x F = some res) (kk : F (vset V a k x) = some res → J g R Q nL K P (vset V a k x) n sl q L st) : J g R Q nL K P V n sl pc L (.int x :: .ref a :: st) := by
  unfold sI at hf
  split at hf
  · rename_i hKa
    exact j_put P (vset V a k x) h ty0 hty hnm hin hc hN hk hfin hd rfl rfl hlk d hq hKa (fun _ _ => rfl) (fun _ hb => vset_ne hb) (fun j hj => flds_vset a x hr j hj) (kk hf)
  · cases hf
theorem z_nar {x : Int32} (h : x = 0 ∨ x = 1) : narrow .boolean (.int x) = .int x := by rcases h with rfl | rfl <;> rfl
theorem z_fit {x : Int32} (h : x = 0 ∨ x = 1) : fits .boolean (.int x) = true := by rcases h with rfl | rfl <;> rfl
theorem j_sB {a : Nat} {x : Int32} {F : VT → Option β} (h : OK g own cc nL ret) (ty0 : Nat → FieldType) (hty : ∀ k, k < N → parseFieldDescriptor (Tt k).2.2.1 = some (ty0 k)) (hnm : ∀ a, a < N → ∀ b, b < N → a ≠ b → (Tt a).2.1 ≠ (Tt b).2.1) (hin : ∀ w ∈ u_ws C Tt N, w ∈ TBL) (hc : cls[ci]? = some (C, Tt, N)) (hN : nF ci = N) (hk : k < N) (hr : isR ci k = false) (hfin : (Tt k).2.2.2 = false) (hd : parseFieldDescriptor (Tt k).2.2.1 = some .boolean) (hlk : Cond.fieldLink own index (Tt k).1 (Tt k).2.1 (Tt k).2.2.1 ∈ TBL) (d : decode cc pc = .ok (.putfield index, 3)) (hq : pc + 3 = q) (hf : sB K V a ci k x F = some res) (kk : F (vset V a k x) = some res → J g R Q nL K P (vset V a k x) n sl q L st) : J g R Q nL K P V n sl pc L (.int x :: .ref a :: st) := by
  unfold sB at hf
  split at hf
  · rename_i hKa
    exact j_put P (vset V a k x) h ty0 hty hnm hin hc hN hk hfin hd (z_nar hKa.2) (z_fit hKa.2) hlk d hq hKa.1 (fun _ _ => rfl) (fun _ hb => vset_ne hb) (fun j hj => flds_vset a x hr j hj) (kk hf)
  · cases hf
end FA
theorem in_of {i : Int32} {n : Nat} (h0 : 0 ≤ i) (h : i.toNatClampNeg < n) : vp_in i n := by
  rintro (z | z)
  · exact absurd h0 (Int32.not_le.mpr z)
  · omega
theorem tyT {T : TT} {D : va_G} {s : State} (hK : va_K D cls (tys T) s) : ArrOfT s T.1 .int ∧ ArrOfT s T.2.1 .boolean ∧ ArrOfT s T.2.2 (.object "QuotedLayers$Layer") := ⟨(hK.2 0 _ rfl).1, (hK.2 1 _ rfl).1, (hK.2 2 _ rfl).1⟩
theorem j_iald {a : Nat} {i : Int32} {F : Int32 → Option β} (h : OK g own cc nL ret) (d : decode cc pc = .ok (.iaload, 1)) (hq : pc + 1 = q) (hf : aI K V 0 a i F = some res) (kk : F (V a i.toNatClampNeg) = some res → J g R Q nL K P V n sl q L (.int (V a i.toNatClampNeg) :: st)) : J g R Q nL K P V n sl pc L (.int i :: .ref a :: st) := by
  obtain ⟨p, l, e, s, m, args, below, meth, c, D, T, A⟩ := g
  subst hq
  unfold aI at hf
  split at hf
  · rename_i u N hKa
    split at hf
    · rename_i hu
      obtain ⟨hu, h0, hlt⟩ := hu
      subst hu
      obtain ⟨hx, hb, hml, ho, hts, hK, -⟩ := h
      exact J.i fun H locs ls h1 h2 h3 h4 h5 => va_iald hx hb hK (h1.one hKa) 0 0 (cA := T.1) (n := N) (f := V a) rfl rfl (in_of h0 hlt) d ((kk hf).u h1 h2 h3 h4 h5)
    · cases hf
  · cases hf
theorem j_bald {a : Nat} {i : Int32} {F : Int32 → Option β} (h : OK g own cc nL ret) (d : decode cc pc = .ok (.baload, 1)) (hq : pc + 1 = q) (hf : aI K V 1 a i F = some res) (kk : F (V a i.toNatClampNeg) = some res → J g R Q nL K P V n sl q L (.int (V a i.toNatClampNeg) :: st)) : J g R Q nL K P V n sl pc L (.int i :: .ref a :: st) := by
  obtain ⟨p, l, e, s, m, args, below, meth, c, D, T, A⟩ := g
  subst hq
  unfold aI at hf
  split at hf
  · rename_i u N hKa
    split at hf
    · rename_i hu
      obtain ⟨hu, h0, hlt⟩ := hu
      subst hu
      obtain ⟨hx, hb, hml, ho, hts, hK, -⟩ := h
      exact J.i fun H locs ls h1 h2 h3 h4 h5 => va_zald hx hb hK (h1.one hKa) 0 1 (cA := T.2.1) (n := N) (f := V a) rfl rfl (in_of h0 hlt) d ((kk hf).u h1 h2 h3 h4 h5)
    · cases hf
  · cases hf
theorem j_aald {a : Nat} {i : Int32} {F : Nat → Option β} (h : OK g own cc nL ret) (d : decode cc pc = .ok (.aaload, 1)) (hq : pc + 1 = q) (hf : aQ K P a i F = some res) (kk : ∀ b : Nat, F b = some res → J g R Q nL K P V n sl q L (.ref b :: st)) : J g R Q nL K P V n sl pc L (.int i :: .ref a :: st) := by
  obtain ⟨p, l, e, s, m, args, below, meth, c, D, T, A⟩ := g
  subst hq
  unfold aQ at hf
  split at hf
  · rename_i u N hKa
    split at hf
    · rename_i hu
      obtain ⟨hu, h0, hlt⟩ := hu
      subst hu
      cases hb' : P a i.toNatClampNeg with
      | none => rw [hb'] at hf; cases hf
      | some b =>
        rw [hb'] at hf
        obtain ⟨hx, hb, hml, ho, hts, hK, -⟩ := h
        refine J.i fun H locs ls h1 h2 h3 h4 h5 => ?_
        refine va_aldq hx hb hK (h1.one hKa) 0 2 (cA := T.2.2) (n := N) (f := P a) rfl rfl (in_of h0 hlt) d ?_
        rw [hb']
        exact (kk b hf).u h1 h2 h3 h4 h5
    · cases hf
  · cases hf
theorem j_alen {a : Nat} {F : Int32 → Option β} (h : OK g own cc nL ret) (d : decode cc pc = .ok (.arraylength, 1)) (hq : pc + 1 = q) (hf : aN K a F = some res) (kk : ∀ N : Nat, F (nI N) = some res → J g R Q nL K P V n sl q L (.int (nI N) :: st)) : J g R Q nL K P V n sl pc L (.ref a :: st) := by
  obtain ⟨p, l, e, s, m, args, below, meth, c, D, T, A⟩ := g
  subst hq
  unfold aN at hf
  split at hf
  · rename_i u N hKa
    split at hf
    · rename_i hu
      obtain ⟨hx, hb, hml, ho, hts, hK, -⟩ := h
      refine J.i fun H locs ls h1 h2 h3 h4 h5 => ?_
      match u, hu with
      | 0, _ => exact va_alen hx hb hK (h1.one hKa) 0 0 (cA := T.1) (x := (N, .inl (V a))) (ty := .int) (v := nI N) rfl rfl rfl d ((kk N hf).u h1 h2 h3 h4 h5)
      | 1, _ => exact va_alen hx hb hK (h1.one hKa) 0 1 (cA := T.2.1) (x := (N, .inl (V a))) (ty := .boolean) (v := nI N) rfl rfl rfl d ((kk N hf).u h1 h2 h3 h4 h5)
      | 2, _ => exact va_alen hx hb hK (h1.one hKa) 0 2 (cA := T.2.2) (x := (N, .inr (.inr (.inr (.inr (P a)))))) (ty := .object "QuotedLayers$Layer") (v := nI N) rfl rfl rfl d ((kk N hf).u h1 h2 h3 h4 h5)
    · cases hf
  · cases hf
theorem updI (f : Nat → Int32) (i : Nat) (x : Int32) : (updV (fun j => Value.int (f j)) i (.int x)) = fun j => Value.int (upd f i x j) := by
  funext j
  by_cases hj : j = i <;> simp [updV, upd, hj]
theorem vset_self (V : VT) (a i : Nat) (x : Int32) : vset V a i x a = upd (V a) i x := by
  funext j
  by_cases hj : j = i <;> simp [vset, upd, hj]
theorem j_iast {a : Nat} {i x : Int32} {F : VT → Option β} (h : OK g own cc nL ret) (d : decode cc pc = .ok (.iastore, 1)) (hq : pc + 1 = q) (hf : sA K V a i x F = some res) (kk : F (vset V a i.toNatClampNeg x) = some res → J g R Q nL K P (vset V a i.toNatClampNeg x) n sl q L st) : J g R Q nL K P V n sl pc L (.int x :: .int i :: .ref a :: st) := by
  obtain ⟨p, l, e, s, m, args, below, meth, c, D, T, A⟩ := g
  subst hq
  unfold sA at hf
  split at hf
  · rename_i u N hKa
    split at hf
    · rename_i hu
      obtain ⟨hu, h0, hlt⟩ := hu
      subst hu
      obtain ⟨hx, hb, hml, ho, hts, hK, -⟩ := h
      refine J.i fun H locs ls h1 h2 h3 h4 h5 => ?_
      refine W.iast hx hb (h1 a _ hKa) ((tyT hK).1 N (fun j => .int (V a j))) (fun q => by cases q) (by show ¬ (i < 0 ∨ (arrV _ _ _).slots.size ≤ _); rw [arrV_size]; exact in_of h0 hlt) rfl rfl d fun H1 e z oq => ?_
      refine (kk hf).u (h1.put oq (fun kd hkd => ?_) (fun _ _ => rfl) (fun _ hb => vset_ne hb)) (h2.put z oq (h4 a (by rw [hKa]; exact fun z => by cases z))) (by rw [z]; exact h3) h4 h5
      rw [hKa] at hkd
      cases hkd
      show H1[a]? = some (vp_cell T.1 (N, .inl (vset V a i.toNatClampNeg x a)))
      rw [e, vset_self]
      show some ((vp_cell T.1 (N, .inl (V a))).setSlot _ _) = _
      rw [vp_cell_i, vp_cell_i, arrV_store, updI]
    · cases hf
  · cases hf
theorem j_zast {a : Nat} {i x : Int32} {F : VT → Option β} (h : OK g own cc nL ret) (d : decode cc pc = .ok (.bastore, 1)) (hq : pc + 1 = q) (hf : sZ K V a i x F = some res) (kk : F (vset V a i.toNatClampNeg x) = some res → J g R Q nL K P (vset V a i.toNatClampNeg x) n sl q L st) : J g R Q nL K P V n sl pc L (.int x :: .int i :: .ref a :: st) := by
  obtain ⟨p, l, e, s, m, args, below, meth, c, D, T, A⟩ := g
  subst hq
  unfold sZ at hf
  split at hf
  · rename_i u N hKa
    split at hf
    · rename_i hu
      obtain ⟨hu, ⟨h0, hlt⟩, hz⟩ := hu
      subst hu
      obtain ⟨hx, hb, hml, ho, hts, hK, -⟩ := h
      refine J.i fun H locs ls h1 h2 h3 h4 h5 => ?_
      have hnx : narrow .boolean (.int x) = .int x := z_nar hz
      refine W.zast hx hb (h1 a _ hKa) ((tyT hK).2.1 N (fun j => .int (V a j))) (fun q => by cases q) (by show ¬ (i < 0 ∨ (arrV _ _ _).slots.size ≤ _); rw [arrV_size]; exact in_of h0 hlt) rfl rfl d fun H1 e z oq => ?_
      refine (kk hf).u (h1.put oq (fun kd hkd => ?_) (fun _ _ => rfl) (fun _ hb => vset_ne hb)) (h2.put z oq (h4 a (by rw [hKa]; exact fun z => by cases z))) (by rw [z]; exact h3) h4 h5
      rw [hKa] at hkd
      cases hkd
      show H1[a]? = some (vp_cell T.2.1 (N, .inl (vset V a i.toNatClampNeg x a)))
      rw [e, vset_self]
      show some ((vp_cell T.2.1 (N, .inl (V a))).setSlot _ _) = _
      first | rw [hnx] | skip
      rw [vp_cell_i, vp_cell_i, arrV_store, updI]
    · cases hf
  · cases hf
/-! ends of a method -/
def QC (A : Nat → Prop) (D : va_G) (T : TT) (rv : Option Value) (K : KT) (P : PT) (V : VT) (mc : Nat) : Array Value → State → Outcome → State → Prop :=
  fun _ st oc t => (oc = .returned rv ∧ HR D T K P V t.heap ∧ t.heap.size = st.heap.size + mc ∧ ∀ a : Nat, K a ≠ none → A a) ∧ va_F A st t
def QF (g : GT) (rv : Option Value) (K : KT) (P : PT) (V : VT) (n sl : Nat) : State → Prop := match g with
  | (_, _, _, s, _, args, below, _, _, D, T, A) => MQ below (QC A D T rv K P V n) args s n sl A
theorem j_iret {x : Int32} {rs : Int32 × VT} (h : OK g own cc nL (some .int)) (d : decode cc pc = .ok (.ireturn, 1)) (hf : (some (x, V) : Option (Int32 × VT)) = some rs) : J g R (QF g (some (.int rs.1)) K P rs.2 n sl) nL K P V n sl pc L [.int x] := by
  obtain ⟨p, l, e, s, m, args, below, meth, c, D, T, A⟩ := g
  cases hf
  obtain ⟨hx, hb, hml, ho, hts, hK, hN, hlk, hA, hr⟩ := h
  exact J.i fun H locs ls h1 h2 h3 h4 h5 => W.iret hx hb hr (fun t ht hW => ⟨⟨rfl, by rw [ht]; exact h1, by rw [ht]; exact h3, h4⟩, h2.F ht⟩) h2.2.2 d hlk
theorem j_zret {x : Int32} {rs : Int32 × VT} (h : OK g own cc nL (some .boolean)) (d : decode cc pc = .ok (.ireturn, 1)) (hf : rB x V = some rs) : J g R (QF g (some (.int rs.1)) K P rs.2 n sl) nL K P V n sl pc L [.int x] := by
  obtain ⟨p, l, e, s, m, args, below, meth, c, D, T, A⟩ := g
  unfold rB at hf
  split at hf
  · rename_i hz
    cases hf
    obtain ⟨hx, hb, hml, ho, hts, hK, hN, hlk, hA, hr⟩ := h
    exact J.i fun H locs ls h1 h2 h3 h4 h5 => W.zret hx hb hr (z_nar hz) (fun t ht hW => ⟨⟨rfl, by rw [ht]; exact h1, by rw [ht]; exact h3, h4⟩, h2.F ht⟩) h2.2.2 d hlk
  · cases hf
theorem j_aret {x : Nat} {C : String} {rs : Nat × VT} (h : OK g own cc nL (some (.object C))) (d : decode cc pc = .ok (.areturn, 1)) (hf : (some (x, V) : Option (Nat × VT)) = some rs) : J g R (QF g (some (.ref rs.1)) K P rs.2 n sl) nL K P V n sl pc L [.ref x] := by
  obtain ⟨p, l, e, s, m, args, below, meth, c, D, T, A⟩ := g
  cases hf
  obtain ⟨hx, hb, hml, ho, hts, hK, hN, hlk, hA, hr⟩ := h
  exact J.i fun H locs ls h1 h2 h3 h4 h5 => W.aret hx hb hr (Or.inl ⟨C, rfl⟩) (Or.inr ⟨x, rfl⟩) (fun t ht hW => ⟨⟨rfl, by rw [ht]; exact h1, by rw [ht]; exact h3, h4⟩, h2.F ht⟩) h2.2.2 d hlk
theorem j_vret0 (h : OK g own cc nL none) (d : decode cc pc = .ok (.return_, 1)) : J g R (QF g none K P V n sl) nL K P V n sl pc L [] := by
  obtain ⟨p, l, e, s, m, args, below, meth, c, D, T, A⟩ := g
  obtain ⟨hx, hb, hml, ho, hts, hK, hN, hlk, hA, hr⟩ := h
  exact J.i fun H locs ls h1 h2 h3 h4 h5 => W.vret hx hb hr (fun t ht hW => ⟨⟨rfl, by rw [ht]; exact h1, by rw [ht]; exact h3, h4⟩, h2.F ht⟩) h2.2.2 d hlk
theorem j_vret {rs : Unit × VT} (h : OK g own cc nL none) (d : decode cc pc = .ok (.return_, 1)) (hf : (some ((), V) : Option (Unit × VT)) = some rs) : J g R (QF g none K P rs.2 n sl) nL K P V n sl pc L [] := by
  cases hf
  exact j_vret0 h d
theorem j_sub {L2 : List (Option Value)} (hs : lsub L2 L) (kk : J g R Q nL K P V n sl pc L2 st) : J g R Q nL K P V n sl pc L st := by
  obtain ⟨p, l, e, s, m, args, below, meth, c, D, T, A⟩ := g
  exact J.i fun H locs ls h1 h2 h3 h4 h5 => kk.u h1 h2 h3 h4 (h5.sub hs)
theorem j_widen {n2 sl2 : Nat} (hn : sl ≤ sl2) (kk : J g R Q nL K P V n sl2 pc L st) : J g R Q nL K P V n sl pc L st := by
  obtain ⟨p, l, e, s, m, args, below, meth, c, D, T, A⟩ := g
  exact J.i fun H locs ls h1 h2 h3 h4 h5 => W.widen (Nat.le_refl _) hn (kk.u h1 h2 h3 h4 h5)
/-! contracts -/
def AA (K : KT) (sz : Nat) : Nat → Prop := fun a => K a ≠ none ∨ sz ≤ a
def CTs (l : Launch) (D : va_G) (T : TT) (sz : Nat) (y : MethodName) (cc : ByteArray) (maxL : Nat) (ret : Option FieldType) (rm : Room) (K : KT) (P : PT) (V : VT) (av : List Value) (rv : Option Value) (K2 : KT) (P2 : PT) (V2 : VT) (mc ms : Nat) : Prop :=
  Met l y (.code y cc maxL ret :: TBL) rm (va_Pc av (fun U => U.heap.size = sz ∧ HR D T K P V U.heap ∧ va_K D cls (tys T) U ∧ NX U)) (QC (AA K sz) D T rv K2 P2 V2 mc) mc ms (AA K sz)
def CT (l : Launch) (D : va_G) (T : TT) (y : MethodName) (cc : ByteArray) (maxL : Nat) (ret : Option FieldType) (rm : Room) (K : KT) (P : PT) (V : VT) (av : List Value) (rv : Option Value) (V2 : VT) : Prop := ∀ sz, CTs l D T sz y cc maxL ret rm K P V av rv K P V2 0 0
def gl (g : GT) : Launch := match g with | (_, l, _) => l
def gD (g : GT) : va_G := match g with | (_, _, _, _, _, _, _, _, _, D, _) => D
def gT (g : GT) : TT := match g with | (_, _, _, _, _, _, _, _, _, _, T, _) => T
theorem lv_args_mem : ∀ (av : List Value) (k : Nat), (∀ v ∈ av, v.category = 1) → ∀ (i : Nat) (v : Value), av[i]? = some v → (k + i, v) ∈ lv_args k av
  | [], _, _, i, v, h => by simp at h
  | a :: t, k, hc, i, v, h => by
    have ha : ¬ a.category = 2 := by rw [hc a List.mem_cons_self]; decide
    unfold lv_args
    rw [if_neg ha]
    cases i with
    | zero => simp at h; subst h; exact List.mem_cons_self
    | succ i =>
      have := lv_args_mem t (k + 1) (fun v hv => hc v (List.mem_cons_of_mem _ hv)) i v (by simpa using h)
      rw [show k + 1 + i = k + (i + 1) by omega] at this
      exact List.mem_cons_of_mem _ this
theorem lg_len : ∀ (av : List Value), (∀ v ∈ av, v.category = 1) → (lg_sl av).length = av.length
  | [], _ => rfl
  | a :: t, hc => by
    have ha : ¬ a.category = 2 := by rw [hc a List.mem_cons_self]; decide
    have := lg_len t (fun v hv => hc v (List.mem_cons_of_mem _ hv))
    unfold lg_sl at this ⊢
    rw [List.flatMap_cons, if_neg ha, List.length_append, this]
    simp; omega
theorem CT_of {l : Launch} {D : va_G} {T : TT} {sz : Nat} {y : MethodName} {cc : ByteArray} {maxL : Nat} {ret : Option FieldType} {rm : Room} {K K2 : KT} {P P2 : PT} {V V2 : VT} {av : List Value} {rv : Option Value} {mc ms : Nat} (hy : plainName y.cls = true) (hc : ∀ v ∈ av, v.category = 1) (hlen : av.length ≤ maxL) (L0 : List (Option Value)) (hL0 : av.map some ++ List.replicate (maxL - av.length) none = L0)
    (body : ∀ g : GT, gsz g = sz → (y.name = "<init>" → INI g) → OK g y.cls cc maxL ret → J g rm (QF g rv K2 P2 V2 mc ms) maxL K P V 0 0 0 L0 []) : CTs l D T sz y cc maxL ret rm K P V av rv K2 P2 V2 mc ms := by
  refine Met.ofW (cc := cc) (maxL := maxL) (ret := ret) hy rfl ?_
  intro p e s m args below meth c s₁ B hml hv
  obtain ⟨rfl, hsz, hHR, hK, hNX⟩ := hv
  subst hsz
  have hts := atoms_spec (ws := _ :: TBL) B.pre
  have b := body (p, l, e, s, m, av.toArray, below, meth, c, D, T, AA K s.heap.size) rfl (fun hi => (name_of_methodNamed B.named B.method).1.trans hi) ⟨B.exec, B.bytes, hml, findClass_of_methodNamed B.named, fun w hw => hts w (List.mem_cons_of_mem _ hw), hK, hNX, B.notSynchronized, fun q hq => Or.inr hq, B.returns⟩
  have hl := lv_entry av (n := maxL) (by rw [lg_len av hc]; exact hlen)
  rw [lg_entry_eq]
  refine b.u hHR va_S.rf rfl (fun a ha => Or.inl ha) ⟨hl.1, hl.2.1, fun i v hi => ?_⟩
  have hm : (0 + i, v) ∈ lv_args 0 av := by
    refine lv_args_mem av 0 hc i v ?_
    rw [← hL0] at hi
    by_cases hil : i < (av.map some).length
    · rw [List.getElem?_append_left hil, List.getElem?_map] at hi
      cases hav : av[i]? with
      | none => rw [hav] at hi; cases hi
      | some w => rw [hav] at hi; cases hi; rfl
    · rw [List.getElem?_append_right (by omega), List.getElem?_replicate] at hi
      split at hi <;> cases hi
  have := hl.2.2 _ hm
  simpa using this
/-! calls -/
theorem run_J {p : Program} {l : Launch} {e : Env} {s : State} {m : MethodId} {args : Array Value} {below : List Frame} {meth : Method} {c : Code} {D : va_G} {T : TT} {A : Nat → Prop} {K2 : KT} {P2 : PT} {V2 : VT} {mc ms : Nat} {st0 rest : List Value} {rv : Option Value} {aa : Array Value} {H : Heap} {locs : List Loc} {ls : Array Slot}
    (hr : va_Run p l e R s m args below meth c H locs n sl mc ms (F0 m pc ls st0) rest (QC (AA K (s.heap.size + n)) D T rv K2 P2 V2 mc aa) (AA K (s.heap.size + n))) (h2 : va_S A s.heap H locs) (h3 : H.size = s.heap.size + n) (h4 : ∀ a : Nat, K a ≠ none → A a) (hA : ∀ q : Nat, s.heap.size ≤ q → A q) (h5 : lvO ls nL L)
    (kk : J (p, l, e, s, m, args, below, meth, c, D, T, A) R Q nL K2 P2 V2 (n + mc) (sl + ms) (pc + 3) L (rv.toList ++ rest)) : W p l e R s m args below meth c H locs n sl Q (F0 m pc ls st0) := by
  intro T0 hT X
  obtain ⟨v, st₀, t, T', Lc, h0, X', hL, e1, e2, ⟨⟨hv, hHR, hz, hKA⟩, hF⟩, st'⟩ := hr T0 hT X
  have hv2 : v = rv := by cases hv; rfl
  subst hv2
  have hAA : ∀ q : Nat, AA K (s.heap.size + n) q → A q := fun q hq => hq.elim (fun z => h4 q z) (fun z => hA q (by omega))
  have hS' : va_S A s.heap T'.heap (locs ++ Lc) := by
    refine ⟨by rw [e1, hz, h0, h3]; omega, fun q h1 h2' => ?_, fun q hq => ?_⟩
    · rw [e1, hF.2 q (by rw [h0, h3]; omega) (fun z => h2' (hAA q z)), h0]
      exact h2.2.1 q h1 h2'
    · rcases List.mem_append.mp hq with hq | hq
      · exact h2.2.2 q hq
      · exact hAA _ (hL q hq)
  obtain ⟨t2, a1, b1⟩ := kk.u (H := T'.heap) (locs := locs ++ Lc) (by rw [e1]; exact hHR) hS' (by rw [e1, hz, h0, h3]; omega) (fun a ha => hAA a (hKA a ha)) h5 T' rfl X'
  exact ⟨t2, st' t2 a1, b1⟩
theorem pc_blind {D : va_G} {T : TT} {sz : Nat} {av : List Value} : FrameBlind (va_Pc av (fun U => U.heap.size = sz ∧ HR D T K P V U.heap ∧ va_K D cls (tys T) U ∧ NX U)) := by
  intro a U fr mk hq
  obtain ⟨q0, q1, q2, q3, q4⟩ := hq
  exact ⟨q0, q1, q2, va_K.moved (u := U) (U := U.calling fr mk a) (Vm.Alike.refl U.vm) q3, q4.same rfl⟩
section CALL
variable {y : MethodName} {cc' : ByteArray} {maxL' : Nat} {ret' : Option FieldType} {rm : Room} {K2 : KT} {P2 : PT} {V2 : VT} {mc ms index : Nat} {rv : Option Value} {b : Nat} {As stk : List Value}
theorem hws_of {s : State} {args : Array Value} (hts : ∀ w ∈ TBL, w.before args s = true) (hcd : Cond.code y cc' maxL' ret' ∈ TBL) : GoodIn TBL (.code y cc' maxL' ret' :: TBL) := tb_good (fun w hw => by
  rcases List.mem_cons.mp hw with rfl | hw
  · exact hcd
  · exact hw)
theorem j_cV {C : String} {Tt : u_T} {N ci : Nat} (h : OK g own cc nL ret) (hC : CTs (gl g) (gD g) (gT g) (gsz g + n) y cc' maxL' ret' rm K P V (.ref b :: As) rv K2 P2 V2 mc ms) (hw1 : Cond.methodLink own index y ∈ TBL) (hw2 : Cond.instanceMethod y ∈ TBL) (hw3 : Cond.selects C y y ∈ TBL) (hw4 : Cond.initialized C ∈ TBL) (hw5 : Cond.code y cc' maxL' ret' ∈ TBL) (hcls : cls[ci]? = some (C, Tt, N)) (hd : y.cls = C ∧ y.cls ≠ "java/lang/invoke/MethodHandle" ∧ y.cls ≠ "java/lang/invoke/VarHandle" ∧ (parseMethodDescriptor y.desc).map (fun d => d.parameters.length) = some As.length) (hR : rm.frames + 1 ≤ R.frames ∧ 8 + (maxL' + 11) + rm.locals ≤ R.locals) (hrc : rm.cells = mc ∧ rm.slots = ms) (hfit : n + mc ≤ R.cells ∧ sl + ms ≤ R.slots) (hKb : K b = some (.inl ci)) (hst : (st.map fun v => v.category).sum ≤ 8) (d : decode cc pc = .ok (.invokevirtual index, 3)) (hq : pc + 3 = q) (hstk : stk = As.reverse ++ .ref b :: st)
    (kk : J g R Q nL K2 P2 V2 (n + mc) (sl + ms) q L (rv.toList ++ st)) : J g R Q nL K P V n sl pc L stk := by
  obtain ⟨p, l, e, s, m, args, below, meth, c, D, T, A⟩ := g
  subst hq; subst hstk
  obtain ⟨hx, hb, hml, ho, hts, hK, hN, hlk, hA, hr⟩ := h
  refine J.i fun H locs ls h1 h2 h3 h4 h5 => ?_
  have hG : GoodIn TBL (wsV own index C y (.code y cc' maxL' ret' :: TBL)) := tb_good (fun w hw => by
    rcases List.mem_append.mp hw with hw | hw
    · simp only [List.mem_cons, List.not_mem_nil, or_false] at hw
      rcases hw with rfl | rfl | rfl | rfl
      · exact hw1
      · exact hw2
      · exact hw3
      · exact hw4
    · exact (hws_of hts hw5 w hw).1)
  exact run_J (va_runV (As := As) (rest := st) ⟨hx, hb, hml, ho, hts⟩ hC (cwV As.length hts hG rfl hrc.1 hrc.2 hd hR) ⟨pc_blind, va_recv hK (h1.one hKb) (ci := ci) (q0 := 0) hcls rfl, fun U hU hW => ⟨rfl, by rw [hU]; exact h3, by rw [hU]; exact h1, va_K.moved hW.alike hK, hN.warm hW⟩⟩ rfl rfl h5.1 rfl (lv_room hst) d hfit) h2 h3 h4 hA h5 kk
theorem j_cS (h : OK g own cc nL ret) (hC : CTs (gl g) (gD g) (gT g) (gsz g + n) y cc' maxL' ret' rm K P V As rv K2 P2 V2 mc ms) (hw1 : Cond.methodLink own index y ∈ TBL) (hw2 : Cond.static y ∈ TBL) (hw4 : Cond.initialized y.cls ∈ TBL) (hw5 : Cond.code y cc' maxL' ret' ∈ TBL) (hd : y.cls ≠ "java/lang/invoke/MethodHandle" ∧ y.cls ≠ "java/lang/invoke/VarHandle" ∧ (parseMethodDescriptor y.desc).map (fun d => d.parameters.length) = some As.length) (hR : rm.frames + 1 ≤ R.frames ∧ 8 + (maxL' + 11) + rm.locals ≤ R.locals) (hrc : rm.cells = mc ∧ rm.slots = ms) (hfit : n + mc ≤ R.cells ∧ sl + ms ≤ R.slots) (hst : (st.map fun v => v.category).sum ≤ 8) (d : decode cc pc = .ok (.invokestatic index, 3)) (hq : pc + 3 = q) (hstk : stk = As.reverse ++ st)
    (kk : J g R Q nL K2 P2 V2 (n + mc) (sl + ms) q L (rv.toList ++ st)) : J g R Q nL K P V n sl pc L stk := by
  obtain ⟨p, l, e, s, m, args, below, meth, c, D, T, A⟩ := g
  subst hq; subst hstk
  obtain ⟨hx, hb, hml, ho, hts, hK, hN, hlk, hA, hr⟩ := h
  refine J.i fun H locs ls h1 h2 h3 h4 h5 => ?_
  have hG : GoodIn TBL (va_wsS own index y (.code y cc' maxL' ret' :: TBL)) := tb_good (fun w hw => by
    rcases List.mem_append.mp hw with hw | hw
    · simp only [List.mem_cons, List.not_mem_nil, or_false] at hw
      rcases hw with rfl | rfl | rfl
      · exact hw1
      · exact hw2
      · exact hw4
    · exact (hws_of hts hw5 w hw).1)
  exact run_J (va_runS (As := As) (rest := st) ⟨hx, hb, hml, ho, hts⟩ hC (va_cwS As.length hts hG rfl hrc.1 hrc.2 hd hR) ⟨pc_blind, fun U hU hW => ⟨rfl, by rw [hU]; exact h3, by rw [hU]; exact h1, va_K.moved hW.alike hK, hN.warm hW⟩⟩ rfl rfl h5.1 rfl (lv_room hst) d hfit) h2 h3 h4 hA h5 kk
theorem j_cSN {host : String} (h : OK g own cc nL ret) (hnx : ∀ s : State, NX s → va_Nw (.methodLinkNest own index y host) s) (hC : CTs (gl g) (gD g) (gT g) (gsz g + n) y cc' maxL' ret' rm K P V As rv K2 P2 V2 mc ms) (hw2 : Cond.static y ∈ TBL) (hw4 : Cond.initialized y.cls ∈ TBL) (hw5 : Cond.code y cc' maxL' ret' ∈ TBL) (hd : y.cls ≠ "java/lang/invoke/MethodHandle" ∧ y.cls ≠ "java/lang/invoke/VarHandle" ∧ (parseMethodDescriptor y.desc).map (fun d => d.parameters.length) = some As.length) (hR : rm.frames + 1 ≤ R.frames ∧ 8 + (maxL' + 11) + rm.locals ≤ R.locals) (hrc : rm.cells = mc ∧ rm.slots = ms) (hfit : n + mc ≤ R.cells ∧ sl + ms ≤ R.slots) (hst : (st.map fun v => v.category).sum ≤ 8) (d : decode cc pc = .ok (.invokestatic index, 3)) (hq : pc + 3 = q) (hstk : stk = As.reverse ++ st)
    (kk : J g R Q nL K2 P2 V2 (n + mc) (sl + ms) q L (rv.toList ++ st)) : J g R Q nL K P V n sl pc L stk := by
  obtain ⟨p, l, e, s, m, args, below, meth, c, D, T, A⟩ := g
  subst hq; subst hstk
  obtain ⟨hx, hb, hml, ho, hts, hK, hN, hlk, hA, hr⟩ := h
  refine J.i fun H locs ls h1 h2 h3 h4 h5 => ?_
  exact run_J (va_runSN (As := As) (rest := st) ⟨hx, hb, hml, ho, hts⟩ hC ⟨va_cnB As.length hts (hws_of hts hw5) rfl hrc.1 hrc.2 (hnx s hN) (hts _ hw4) hd hR, hts _ hw2, trivial⟩ ⟨pc_blind, fun U hU hW => ⟨rfl, by rw [hU]; exact h3, by rw [hU]; exact h1, va_K.moved hW.alike hK, hN.warm hW⟩⟩ rfl rfl h5.1 rfl (lv_room hst) d hfit) h2 h3 h4 hA h5 kk
theorem j_cI (h : OK g own cc nL ret) (hC : CTs (gl g) (gD g) (gT g) (gsz g + n) y cc' maxL' none rm K P V (.ref b :: As) none K2 P2 V2 mc ms) (hw1 : Cond.methodLink own index y ∈ TBL) (hw2 : Cond.instanceMethod y ∈ TBL) (hw4 : Cond.initialized y.cls ∈ TBL) (hw5 : Cond.code y cc' maxL' none ∈ TBL) (hy : y.name = "<init>") (hd : y.cls ≠ "java/lang/invoke/MethodHandle" ∧ y.cls ≠ "java/lang/invoke/VarHandle" ∧ (parseMethodDescriptor y.desc).map (fun d => d.parameters.length) = some As.length) (hR : rm.frames + 1 ≤ R.frames ∧ 8 + (maxL' + 11) + rm.locals ≤ R.locals) (hrc : rm.cells = mc ∧ rm.slots = ms) (hfit : n + mc ≤ R.cells ∧ sl + ms ≤ R.slots) (hst : (st.map fun v => v.category).sum ≤ 8) (d : decode cc pc = .ok (.invokespecial index, 3)) (hq : pc + 3 = q) (hstk : stk = As.reverse ++ .ref b :: st)
    (kk : J g R Q nL K2 P2 V2 (n + mc) (sl + ms) q L st) : J g R Q nL K P V n sl pc L stk := by
  obtain ⟨p, l, e, s, m, args, below, meth, c, D, T, A⟩ := g
  subst hq; subst hstk
  obtain ⟨hx, hb, hml, ho, hts, hK, hN, hlk, hA, hr⟩ := h
  refine J.i fun H locs ls h1 h2 h3 h4 h5 => ?_
  exact run_J (va_runI (As := As) (rest := st) ⟨hx, hb, hml, ho, hts⟩ hC (cwI As.length hts (hws_of hts hw5) rfl hrc.1 hrc.2 (hts _ hw4) (hts _ hw1) (hts _ hw2) hy hd hR) ⟨pc_blind, fun U hU hW => ⟨rfl, by rw [hU]; exact h3, by rw [hU]; exact h1, va_K.moved hW.alike hK, hN.warm hW⟩⟩ rfl rfl h5.1 rfl (lv_room hst) d hfit) h2 h3 h4 hA h5 kk
end CALL
theorem j_objInit {a idx : Nat} (h : OK g own cc nL ret) (hw1 : Cond.methodLink own idx Lib.objectInit ∈ TBL) (hw2 : Cond.instanceMethod Lib.objectInit ∈ TBL) (hw3 : Cond.code Lib.objectInit ⟨#[0xb1]⟩ 1 none ∈ TBL) (hR : 1 ≤ R.frames ∧ (st.map fun v => v.category).sum + 12 ≤ R.locals) (d : decode cc pc = .ok (.invokespecial idx, 3)) (hq : pc + 3 = q) (kk : J g R Q nL K P V n sl q L st) : J g R Q nL K P V n sl pc L (.ref a :: st) := by
  obtain ⟨p, l, e, s, m, args, below, meth, c, D, T, A⟩ := g
  subst hq
  obtain ⟨hx, hb, hml, ho, hts, hK, hN, hlk, hA, hr⟩ := h
  refine J.i fun H locs ls h1 h2 h3 h4 h5 => ?_
  refine W.objInit hx hb ho (hts _ hw1) (hts _ hw2) (hts _ hw3) rfl (by rw [hml]; exact h5.1) rfl d hR.1 (by simpa [JFrame.monitorRoom] using hR.2) ?_
  exact kk.u h1 h2 h3 h4 h5
end RW
/-! calls beside their shallow functions; kinds of answer: i (whole number), a (reference), v (none) -/
section RW2
variable {g : GT} {R : Room} {Q : State → Prop} {nL : Nat} {K : KT} {P : PT} {V : VT} {n sl pc q : Nat} {L : List (Option Value)} {st : List Value} {own : String} {cc : ByteArray} {ret : Option FieldType} {β : Type} {res : β}
variable {y : MethodName} {cc' : ByteArray} {maxL' : Nat} {ret' : Option FieldType} {rm : Room} {index : Nat} {b : Nat} {As stk : List Value}
def VW (C : String) (y : MethodName) (cc' : ByteArray) (maxL' : Nat) (ret' : Option FieldType) (k : Nat) (ci : Nat) : Prop := Cond.instanceMethod y ∈ TBL ∧ Cond.selects C y y ∈ TBL ∧ Cond.initialized C ∈ TBL ∧ Cond.code y cc' maxL' ret' ∈ TBL ∧ (∃ Tt N, cls[ci]? = some (C, Tt, N)) ∧ (y.cls = C ∧ y.cls ≠ "java/lang/invoke/MethodHandle" ∧ y.cls ≠ "java/lang/invoke/VarHandle" ∧ (parseMethodDescriptor y.desc).map (fun d => d.parameters.length) = some k)
def SW (y : MethodName) (cc' : ByteArray) (maxL' : Nat) (ret' : Option FieldType) (k : Nat) : Prop := Cond.static y ∈ TBL ∧ Cond.initialized y.cls ∈ TBL ∧ Cond.code y cc' maxL' ret' ∈ TBL ∧ (y.cls ≠ "java/lang/invoke/MethodHandle" ∧ y.cls ≠ "java/lang/invoke/VarHandle" ∧ (parseMethodDescriptor y.desc).map (fun d => d.parameters.length) = some k)
def RF (rm R : Room) (maxL' : Nat) : Prop := (rm.frames + 1 ≤ R.frames ∧ 8 + (maxL' + 11) + rm.locals ≤ R.locals) ∧ rm.cells = 0 ∧ rm.slots = 0
theorem j_cVi {C : String} {ci : Nat} {F : Int32 → VT → Option β} {fx : Option (Int32 × VT)} (h : OK g own cc nL ret) (hstk : stk = As.reverse ++ .ref b :: st) (hf : cV K b ci fx F = some res) (hC : ∀ rs, fx = some rs → CT (gl g) (gD g) (gT g) y cc' maxL' ret' rm K P V (.ref b :: As) (some (.int rs.1)) rs.2) (hw1 : Cond.methodLink own index y ∈ TBL) (hw : VW C y cc' maxL' ret' As.length ci) (hR : RF rm R maxL') (hn : n ≤ R.cells ∧ sl ≤ R.slots) (hst : (st.map fun v => v.category).sum ≤ 8) (d : decode cc pc = .ok (.invokevirtual index, 3)) (hq : pc + 3 = q)
    (kk : ∀ (r : Int32) (V1 : VT), F r V1 = some res → J g R Q nL K P V1 n sl q L (.int r :: st)) : J g R Q nL K P V n sl pc L stk := by
  unfold cV at hf
  split at hf
  · rename_i hK
    unfold cS at hf
    split at hf
    · rename_i r V1
      obtain ⟨w2, w3, w4, w5, ⟨Tt, N, w6⟩, w7⟩ := hw
      exact j_cV h (hC (r, V1) rfl (gsz g + n)) hw1 w2 w3 w4 w5 w6 w7 hR.1 ⟨hR.2.1, hR.2.2⟩ hn hK hst d hq hstk (kk r V1 hf)
    · cases hf
  · cases hf
theorem j_cVa {C : String} {ci : Nat} {F : Nat → VT → Option β} {fx : Option (Nat × VT)} (h : OK g own cc nL ret) (hstk : stk = As.reverse ++ .ref b :: st) (hf : cV K b ci fx F = some res) (hC : ∀ rs, fx = some rs → CT (gl g) (gD g) (gT g) y cc' maxL' ret' rm K P V (.ref b :: As) (some (.ref rs.1)) rs.2) (hw1 : Cond.methodLink own index y ∈ TBL) (hw : VW C y cc' maxL' ret' As.length ci) (hR : RF rm R maxL') (hn : n ≤ R.cells ∧ sl ≤ R.slots) (hst : (st.map fun v => v.category).sum ≤ 8) (d : decode cc pc = .ok (.invokevirtual index, 3)) (hq : pc + 3 = q)
    (kk : ∀ (r : Nat) (V1 : VT), F r V1 = some res → J g R Q nL K P V1 n sl q L (.ref r :: st)) : J g R Q nL K P V n sl pc L stk := by
  unfold cV at hf
  split at hf
  · rename_i hK
    unfold cS at hf
    split at hf
    · rename_i r V1
      obtain ⟨w2, w3, w4, w5, ⟨Tt, N, w6⟩, w7⟩ := hw
      exact j_cV h (hC (r, V1) rfl (gsz g + n)) hw1 w2 w3 w4 w5 w6 w7 hR.1 ⟨hR.2.1, hR.2.2⟩ hn hK hst d hq hstk (kk r V1 hf)
    · cases hf
  · cases hf
theorem j_cVv {C : String} {ci : Nat} {F : Unit → VT → Option β} {fx : Option (Unit × VT)} (h : OK g own cc nL ret) (hstk : stk = As.reverse ++ .ref b :: st) (hf : cV K b ci fx F = some res) (hC : ∀ rs, fx = some rs → CT (gl g) (gD g) (gT g) y cc' maxL' ret' rm K P V (.ref b :: As) none rs.2) (hw1 : Cond.methodLink own index y ∈ TBL) (hw : VW C y cc' maxL' ret' As.length ci) (hR : RF rm R maxL') (hn : n ≤ R.cells ∧ sl ≤ R.slots) (hst : (st.map fun v => v.category).sum ≤ 8) (d : decode cc pc = .ok (.invokevirtual index, 3)) (hq : pc + 3 = q)
    (kk : ∀ (r : Unit) (V1 : VT), F r V1 = some res → J g R Q nL K P V1 n sl q L st) : J g R Q nL K P V n sl pc L stk := by
  unfold cV at hf
  split at hf
  · rename_i hK
    unfold cS at hf
    split at hf
    · rename_i r V1
      obtain ⟨w2, w3, w4, w5, ⟨Tt, N, w6⟩, w7⟩ := hw
      exact j_cV h (hC (r, V1) rfl (gsz g + n)) hw1 w2 w3 w4 w5 w6 w7 hR.1 ⟨hR.2.1, hR.2.2⟩ hn hK hst d hq hstk (kk r V1 hf)
    · cases hf
  · cases hf
theorem j_cSi {F : Int32 → VT → Option β} {fx : Option (Int32 × VT)} (h : OK g own cc nL ret) (hstk : stk = As.reverse ++ st) (hf : cS fx F = some res) (hC : ∀ rs, fx = some rs → CT (gl g) (gD g) (gT g) y cc' maxL' ret' rm K P V As (some (.int rs.1)) rs.2) (hw1 : Cond.methodLink own index y ∈ TBL) (hw : SW y cc' maxL' ret' As.length) (hR : RF rm R maxL') (hn : n ≤ R.cells ∧ sl ≤ R.slots) (hst : (st.map fun v => v.category).sum ≤ 8) (d : decode cc pc = .ok (.invokestatic index, 3)) (hq : pc + 3 = q)
    (kk : ∀ (r : Int32) (V1 : VT), F r V1 = some res → J g R Q nL K P V1 n sl q L (.int r :: st)) : J g R Q nL K P V n sl pc L stk := by
  unfold cS at hf
  split at hf
  · rename_i r V1
    obtain ⟨w2, w4, w5, w7⟩ := hw
    exact j_cS h (hC (r, V1) rfl (gsz g + n)) hw1 w2 w4 w5 w7 hR.1 ⟨hR.2.1, hR.2.2⟩ hn hst d hq hstk (kk r V1 hf)
  · cases hf
theorem j_cSv {F : Unit → VT → Option β} {fx : Option (Unit × VT)} (h : OK g own cc nL ret) (hstk : stk = As.reverse ++ st) (hf : cS fx F = some res) (hC : ∀ rs, fx = some rs → CT (gl g) (gD g) (gT g) y cc' maxL' ret' rm K P V As none rs.2) (hw1 : Cond.methodLink own index y ∈ TBL) (hw : SW y cc' maxL' ret' As.length) (hR : RF rm R maxL') (hn : n ≤ R.cells ∧ sl ≤ R.slots) (hst : (st.map fun v => v.category).sum ≤ 8) (d : decode cc pc = .ok (.invokestatic index, 3)) (hq : pc + 3 = q)
    (kk : ∀ (r : Unit) (V1 : VT), F r V1 = some res → J g R Q nL K P V1 n sl q L st) : J g R Q nL K P V n sl pc L stk := by
  unfold cS at hf
  split at hf
  · rename_i r V1
    obtain ⟨w2, w4, w5, w7⟩ := hw
    exact j_cS h (hC (r, V1) rfl (gsz g + n)) hw1 w2 w4 w5 w7 hR.1 ⟨hR.2.1, hR.2.2⟩ hn hst d hq hstk (kk r V1 hf)
  · cases hf
theorem j_cNi {host : String} {F : Int32 → VT → Option β} {fx : Option (Int32 × VT)} (h : OK g own cc nL ret) (hstk : stk = As.reverse ++ st) (hf : cS fx F = some res) (hC : ∀ rs, fx = some rs → CT (gl g) (gD g) (gT g) y cc' maxL' ret' rm K P V As (some (.int rs.1)) rs.2) (hnx : ∀ s : State, NX s → va_Nw (.methodLinkNest own index y host) s) (hw : SW y cc' maxL' ret' As.length) (hR : RF rm R maxL') (hn : n ≤ R.cells ∧ sl ≤ R.slots) (hst : (st.map fun v => v.category).sum ≤ 8) (d : decode cc pc = .ok (.invokestatic index, 3)) (hq : pc + 3 = q)
    (kk : ∀ (r : Int32) (V1 : VT), F r V1 = some res → J g R Q nL K P V1 n sl q L (.int r :: st)) : J g R Q nL K P V n sl pc L stk := by
  unfold cS at hf
  split at hf
  · rename_i r V1
    obtain ⟨w2, w4, w5, w7⟩ := hw
    exact j_cSN h hnx (hC (r, V1) rfl (gsz g + n)) w2 w4 w5 w7 hR.1 ⟨hR.2.1, hR.2.2⟩ hn hst d hq hstk (kk r V1 hf)
  · cases hf
theorem j_case {G : Prop} {x c : Int32} {FA FB : Option β} (hf : (if x = c then FA else FB) = some res) (k1 : x = c → FA = some res → G) (k2 : ¬ x = c → FB = some res → G) : G := by
  by_cases hx : x = c
  · rw [if_pos hx] at hf; exact k1 hx hf
  · rw [if_neg hx] at hf; exact k2 hx hf
theorem j_tsIn {dflt lo hi : Int} {offs : Array Int} {len : Nat} {x c : Int32} {off : Int} (tgt : Nat) (h : OK g own cc nL ret) (hx : x = c) (d : decode cc pc = .ok (.tableswitch dflt lo hi offs, len)) (h1 : ¬ c.toInt < lo) (h2 : ¬ hi < c.toInt) (ho : offs[(c.toInt - lo).toNat]? = some off) (ht : (pc : Int) + off = (tgt : Int)) (kk : J g R Q nL K P V n sl tgt L st) : J g R Q nL K P V n sl pc L (.int x :: st) := by
  obtain ⟨p, l, e, s, m, args, below, meth, c, D, T, A⟩ := g
  subst hx
  exact J.i fun H locs ls g1 g2 g3 g4 g5 => lv_tableIn h.1 h.2.1 d h1 h2 ho ht (kk.u g1 g2 g3 g4 g5)
theorem j_tsOut {dflt lo hi : Int} {offs : Array Int} {len : Nat} {x : Int32} (tgt : Nat) (h : OK g own cc nL ret) (d : decode cc pc = .ok (.tableswitch dflt lo hi offs, len)) (h1 : x.toInt < lo ∨ hi < x.toInt) (ht : (pc : Int) + dflt = (tgt : Int)) (kk : J g R Q nL K P V n sl tgt L st) : J g R Q nL K P V n sl pc L (.int x :: st) := by
  obtain ⟨p, l, e, s, m, args, below, meth, c, D, T, A⟩ := g
  exact J.i fun H locs ls g1 g2 g3 g4 g5 => lv_tableOut h.1 h.2.1 d h1 ht (kk.u g1 g2 g3 g4 g5)
theorem j_nonnull {x : Nat} {off : Int} (tgt : Nat) (h : OK g own cc nL ret) (d : decode cc pc = .ok (.ifnonnull off, 3)) (ht : (pc : Int) + off = (tgt : Int)) (kk : J g R Q nL K P V n sl tgt L st) : J g R Q nL K P V n sl pc L (.ref x :: st) := by
  obtain ⟨p, l, e, s, m, args, below, meth, c, D, T, A⟩ := g
  exact J.i fun H locs ls g1 g2 g3 g4 g5 => lv_ifnonnull h.1 h.2.1 d ht (kk.u g1 g2 g3 g4 g5)
end RW2
theorem ne_toInt {x c : Int32} {z : Int} (h : ¬ x = c) (hc : c.toInt = z) : ¬ x.toInt = z := fun q => h (Int32.toInt_inj.mp (q.trans hc.symm))
theorem lsub_0 {L : List (Option Value)} : lsub [] L := trivial
theorem lsub_n {t L : List (Option Value)} {o : Option Value} (h : lsub t L) : lsub (none :: t) (o :: L) := h
theorem lsub_s {t L : List (Option Value)} {v : Value} (h : lsub t L) : lsub (some v :: t) (some v :: L) := ⟨rfl, h⟩
theorem cat_0 : ∀ v ∈ ([] : List Value), v.category = 1 := fun v h => by cases h
theorem cat_i {x : Int32} {t : List Value} (h : ∀ v ∈ t, v.category = 1) : ∀ v ∈ (Value.int x :: t), v.category = 1 := List.forall_mem_cons.mpr ⟨rfl, h⟩
theorem cat_a {x : Nat} {t : List Value} (h : ∀ v ∈ t, v.category = 1) : ∀ v ∈ (Value.ref x :: t), v.category = 1 := List.forall_mem_cons.mpr ⟨rfl, h⟩
theorem of_places {ws : List Cond} (ps : List Nat) (hp : ws = ps.filterMap (fun i => lw_tbl[i]?)) (h : ws.all goodWord = true) : ∀ w ∈ ws, w ∈ TBL := by
  intro w hw
  have h1 := List.all_eq_true.mp h w hw
  rw [hp] at hw
  obtain ⟨i, -, hi⟩ := List.mem_filterMap.mp hw
  exact tm hi h1
def FU : Nat := 1000000000
end BASE
