/-! THE CLAIM OUT OF ONE WALK OF THE LAW'S BODY. Your part is whole_start (and what it stands on); all else here is the same for every law, but numbers. -/
def R_law : String := "QuotedLayersLaw"
def lw_P (b : Addr) (xs : List Int32) (args : Array Value) (s : State) : Prop := args = #[.ref b] ∧ s.IntsAt b xs ∧ xs.length ≤ 1536 ∧ (Jvm.Cond.and given_1 narrow_1).before args s = true
def lw_Q (_ : Array Value) (s : State) (o : Outcome) (t : State) : Prop := o = .returned (some (.int 1)) ∧ Framed s o t [] 600000 7302250
def lw_Z (below : List Frame) (a : Array Value) (s : State) : State → Prop := fun t => ∃ o, t.status = .running ∧ Ended t below o ∧ lw_Q a s o t
/-- the law's own end, with 1 on the stack, nothing written that was there before, its room as the claim has it -/
theorem lw_ret {p : Program} {l : Launch} {e : Env} {s : State} {m : MethodId} {below : List Frame} {meth : Method} {c : Code} {b : Nat} (hx : p.tables.exec = Jvm.exec) (hb : c.code = code) (hr : meth.sig.returnType = ret) (hlocks : meth.locks = false) {pc : Nat} {H : Heap} {ls : Array Slot} (hdg : decode code pc = .ok (.ireturn, 1)) : W p l e room_1 s m #[Value.ref b] below meth c H [] 600000 7302250 (lw_Z below #[Value.ref b] s) (F0 m pc ls [.int 1]) := by
  intro T hT X
  obtain ⟨fs, hret, hrun, hended, hW, hframe⟩ := X.leave (v := some (.int 1)) (hlocks := hlocks) (fun h => by rw [hr] at h; cases h)
  have hmeth' : T.vm.method? m = some meth := X.method'
  refine ⟨T.setFrames fs, ?_, .returned (some (.int 1)), hrun, hended, rfl, ⟨_, rfl⟩, hW, hframe⟩
  jvm_step X.here [X.here.top, hx, hb, hdg, hmeth', hr, ret, narrow_b1]
  (try refine ⟨rfl, ?_⟩); (try refine ⟨rfl, ?_⟩)
  first | (intro acts; rw [hret _ acts rfl rfl rfl]) | rw [hret _ _ rfl rfl rfl]
  exact Steps.refl _
/-- what holds at the law's entry: the machine, the code, the tables' words (any of lw_tbl by 'hts w (by decide +kernel)'), the script of L ints xs at the cell b, what the Statement gives of the start (any of its parts by flat_of_before) -/
def lw_At (p : Program) (s : State) (m : MethodId) (meth : Method) (c : Code) (b L : Nat) (xs : Nat → Int32) : Prop :=
  p.tables.exec = Jvm.exec ∧ c.code = code ∧ meth.sig.returnType = ret ∧ c.maxLocals = 4 ∧ s.vm.findClass R_law = some m.cls ∧ (∀ w ∈ lw_tbl, w.before #[Value.ref b] s = true) ∧ va_X b L xs s s.heap ∧ b < s.heap.size ∧ meth.locks = false ∧ (Jvm.Cond.and given_1 narrow_1).before #[Value.ref b] s = true
/-- the script beside the world; the law's own end -/
def SC (g : GT) (b Ls : Nat) (xs : Nat → Int32) : Prop := match g with
  | (_, _, _, s, _, args, _, _, _, _, _, A) => va_X b Ls xs s s.heap ∧ b < s.heap.size ∧ (∀ q : Nat, A q → s.heap.size ≤ q) ∧ args = #[Value.ref b]
def LZ (g : GT) : State → Prop := match g with
  | (_, _, _, s, _, args, below, _) => lw_Z below args s
def sX {β : Type} (xs : Nat → Int32) (Ls : Nat) (i : Int32) (F : Int32 → Option β) : Option β := if 0 ≤ i ∧ i.toNatClampNeg < Ls then F (xs i.toNatClampNeg) else none
section LW
variable {g : GT} {R : Room} {Q : State → Prop} {nL : Nat} {K : KT} {P : PT} {V : VT} {n sl pc q : Nat} {L : List (Option Value)} {st : List Value} {own : String} {cc : ByteArray} {ret : Option FieldType} {β : Type} {res : β} {b Ls : Nat} {xs : Nat → Int32}
theorem j_slen (h : OK g own cc nL ret) (hs : SC g b Ls xs) (d : decode cc pc = .ok (.arraylength, 1)) (hq : pc + 1 = q) (kk : J g R Q nL K P V n sl q L (.int (nI Ls) :: st)) : J g R Q nL K P V n sl pc L (.ref b :: st) := by
  obtain ⟨p, l, e, s, m, args, below, meth, c, D, T, A⟩ := g
  subst hq
  exact J.i fun H locs ls h1 h2 h3 h4 h5 => va_slen h.1 h.2.1 hs.1 hs.2.1 (fun z => absurd (hs.2.2.1 b z) (Nat.not_le.mpr hs.2.1)) h2 d (kk.u h1 h2 h3 h4 h5)
theorem j_sld {i : Int32} {F : Int32 → Option β} (h : OK g own cc nL ret) (hs : SC g b Ls xs) (d : decode cc pc = .ok (.iaload, 1)) (hq : pc + 1 = q) (hf : sX xs Ls i F = some res) (kk : F (xs i.toNatClampNeg) = some res → J g R Q nL K P V n sl q L (.int (xs i.toNatClampNeg) :: st)) : J g R Q nL K P V n sl pc L (.int i :: .ref b :: st) := by
  obtain ⟨p, l, e, s, m, args, below, meth, c, D, T, A⟩ := g
  subst hq
  unfold sX at hf
  split at hf
  · rename_i hi
    exact J.i fun H locs ls h1 h2 h3 h4 h5 => va_sld h.1 h.2.1 hs.1 hs.2.1 (fun z => absurd (hs.2.2.1 b z) (Nat.not_le.mpr hs.2.1)) h2 (in_of hi.1 hi.2) d ((kk hf).u h1 h2 h3 h4 h5)
  · cases hf
theorem j_lret {x : Int32} {rs : Int32 × VT} (h : OK g RL code 4 Jvm.Pilot.@@N@@.ret) (hs : SC g b Ls xs) (hn : n ≤ 600000 ∧ sl ≤ 7302250) (d : decode code pc = .ok (.ireturn, 1)) (hf : (some (x, V) : Option (Int32 × VT)) = some rs) (h1 : rs.1 = 1) : J g room_1 (LZ g) 4 K P V n sl pc L [.int x] := by
  obtain ⟨p, l, e, s, m, args, below, meth, c, D, T, A⟩ := g
  cases hf
  have hx1 : x = 1 := h1
  subst hx1
  obtain ⟨hx, hb, hml, ho, hts, hK, hN, hlk, hA, hr⟩ := h
  obtain ⟨hX, hbl, hA2, rfl⟩ := hs
  refine J.i fun H locs ls h1 h2 h3 h4 h5 => ?_
  refine va_forget (fun q hq => hA2 _ (h2.2.2 q hq)) ?_
  refine W.widen (k := 600000) (n := 7302250) hn.1 hn.2 ?_
  exact lw_ret hx hb hr hlk d
end LW
theorem ml_XL_13 : Cond.methodLink RL 13 yX6_say ∈ TBL := tm (i := 177) (by decide +kernel) (by decide +kernel)
theorem im_X6_say : Cond.instanceMethod yX6_say ∈ TBL := tm (i := 178) (by decide +kernel) (by decide +kernel)
theorem se_X6_say : Cond.selects RX6 yX6_say yX6_say ∈ TBL := tm (i := 179) (by decide +kernel) (by decide +kernel)
theorem cd_X6_say : Cond.code yX6_say cX6_say 2 (some .int) ∈ TBL := tm (i := 180) (by decide +kernel) (by decide +kernel)
theorem vw_X6_say : VW RX6 yX6_say cX6_say 2 (some .int) 1 4 := ⟨im_X6_say, se_X6_say, ini_X6, cd_X6_say, ⟨_, _, rfl⟩, by decide +kernel⟩
theorem ml_XL_17 : Cond.methodLink RL 17 yX7_say ∈ TBL := tm (i := 594) (by decide +kernel) (by decide +kernel)
theorem im_X7_say : Cond.instanceMethod yX7_say ∈ TBL := tm (i := 595) (by decide +kernel) (by decide +kernel)
theorem se_X7_say : Cond.selects RX7 yX7_say yX7_say ∈ TBL := tm (i := 596) (by decide +kernel) (by decide +kernel)
theorem cd_X7_say : Cond.code yX7_say cX7_say 2 (some .int) ∈ TBL := tm (i := 597) (by decide +kernel) (by decide +kernel)
theorem vw_X7_say : VW RX7 yX7_say cX7_say 2 (some .int) 1 5 := ⟨im_X7_say, se_X7_say, ini_X7, cd_X7_say, ⟨_, _, rfl⟩, by decide +kernel⟩
theorem ml_XL_18 : Cond.methodLink RL 18 yX6_wipe ∈ TBL := tm (i := 189) (by decide +kernel) (by decide +kernel)
theorem im_X6_wipe : Cond.instanceMethod yX6_wipe ∈ TBL := tm (i := 190) (by decide +kernel) (by decide +kernel)
theorem se_X6_wipe : Cond.selects RX6 yX6_wipe yX6_wipe ∈ TBL := tm (i := 191) (by decide +kernel) (by decide +kernel)
theorem cd_X6_wipe : Cond.code yX6_wipe cX6_wipe 2 (some .int) ∈ TBL := tm (i := 192) (by decide +kernel) (by decide +kernel)
theorem vw_X6_wipe : VW RX6 yX6_wipe cX6_wipe 2 (some .int) 0 4 := ⟨im_X6_wipe, se_X6_wipe, ini_X6, cd_X6_wipe, ⟨_, _, rfl⟩, by decide +kernel⟩
theorem ml_XL_22 : Cond.methodLink RL 22 yX7_wipe ∈ TBL := tm (i := 601) (by decide +kernel) (by decide +kernel)
theorem im_X7_wipe : Cond.instanceMethod yX7_wipe ∈ TBL := tm (i := 602) (by decide +kernel) (by decide +kernel)
theorem se_X7_wipe : Cond.selects RX7 yX7_wipe yX7_wipe ∈ TBL := tm (i := 603) (by decide +kernel) (by decide +kernel)
theorem cd_X7_wipe : Cond.code yX7_wipe cX7_wipe 2 (some .int) ∈ TBL := tm (i := 604) (by decide +kernel) (by decide +kernel)
theorem vw_X7_wipe : VW RX7 yX7_wipe cX7_wipe 2 (some .int) 0 5 := ⟨im_X7_wipe, se_X7_wipe, ini_X7, cd_X7_wipe, ⟨_, _, rfl⟩, by decide +kernel⟩
theorem ml_XL_23 : Cond.methodLink RL 23 yX6_fault ∈ TBL := tm (i := 197) (by decide +kernel) (by decide +kernel)
theorem im_X6_fault : Cond.instanceMethod yX6_fault ∈ TBL := tm (i := 198) (by decide +kernel) (by decide +kernel)
theorem se_X6_fault : Cond.selects RX6 yX6_fault yX6_fault ∈ TBL := tm (i := 199) (by decide +kernel) (by decide +kernel)
theorem cd_X6_fault : Cond.code yX6_fault cX6_fault 1 (some .int) ∈ TBL := tm (i := 200) (by decide +kernel) (by decide +kernel)
theorem vw_X6_fault : VW RX6 yX6_fault cX6_fault 1 (some .int) 0 4 := ⟨im_X6_fault, se_X6_fault, ini_X6, cd_X6_fault, ⟨_, _, rfl⟩, by decide +kernel⟩
theorem ml_XL_26 : Cond.methodLink RL 26 yX7_fault ∈ TBL := tm (i := 605) (by decide +kernel) (by decide +kernel)
theorem im_X7_fault : Cond.instanceMethod yX7_fault ∈ TBL := tm (i := 606) (by decide +kernel) (by decide +kernel)
theorem se_X7_fault : Cond.selects RX7 yX7_fault yX7_fault ∈ TBL := tm (i := 607) (by decide +kernel) (by decide +kernel)
theorem cd_X7_fault : Cond.code yX7_fault cX7_fault 1 (some .int) ∈ TBL := tm (i := 608) (by decide +kernel) (by decide +kernel)
theorem vw_X7_fault : VW RX7 yX7_fault cX7_fault 1 (some .int) 0 5 := ⟨im_X7_fault, se_X7_fault, ini_X7, cd_X7_fault, ⟨_, _, rfl⟩, by decide +kernel⟩
theorem ml_XL_27 : Cond.methodLink RL 27 yX6_layer ∈ TBL := tm (i := 232) (by decide +kernel) (by decide +kernel)
theorem im_X6_layer : Cond.instanceMethod yX6_layer ∈ TBL := tm (i := 233) (by decide +kernel) (by decide +kernel)
theorem se_X6_layer : Cond.selects RX6 yX6_layer yX6_layer ∈ TBL := tm (i := 234) (by decide +kernel) (by decide +kernel)
theorem cd_X6_layer : Cond.code yX6_layer cX6_layer 3 (some .int) ∈ TBL := tm (i := 235) (by decide +kernel) (by decide +kernel)
theorem vw_X6_layer : VW RX6 yX6_layer cX6_layer 3 (some .int) 1 4 := ⟨im_X6_layer, se_X6_layer, ini_X6, cd_X6_layer, ⟨_, _, rfl⟩, by decide +kernel⟩
theorem ml_XL_30 : Cond.methodLink RL 30 yX7_layer ∈ TBL := tm (i := 620) (by decide +kernel) (by decide +kernel)
theorem im_X7_layer : Cond.instanceMethod yX7_layer ∈ TBL := tm (i := 621) (by decide +kernel) (by decide +kernel)
theorem se_X7_layer : Cond.selects RX7 yX7_layer yX7_layer ∈ TBL := tm (i := 622) (by decide +kernel) (by decide +kernel)
theorem cd_X7_layer : Cond.code yX7_layer cX7_layer 5 (some .int) ∈ TBL := tm (i := 623) (by decide +kernel) (by decide +kernel)
theorem vw_X7_layer : VW RX7 yX7_layer cX7_layer 5 (some .int) 1 5 := ⟨im_X7_layer, se_X7_layer, ini_X7, cd_X7_layer, ⟨_, _, rfl⟩, by decide +kernel⟩
theorem ml_XL_31 : Cond.methodLink RL 31 yX6_about ∈ TBL := tm (i := 257) (by decide +kernel) (by decide +kernel)
theorem im_X6_about : Cond.instanceMethod yX6_about ∈ TBL := tm (i := 258) (by decide +kernel) (by decide +kernel)
theorem se_X6_about : Cond.selects RX6 yX6_about yX6_about ∈ TBL := tm (i := 259) (by decide +kernel) (by decide +kernel)
theorem cd_X6_about : Cond.code yX6_about cX6_about 3 (some .int) ∈ TBL := tm (i := 260) (by decide +kernel) (by decide +kernel)
theorem vw_X6_about : VW RX6 yX6_about cX6_about 3 (some .int) 2 4 := ⟨im_X6_about, se_X6_about, ini_X6, cd_X6_about, ⟨_, _, rfl⟩, by decide +kernel⟩
theorem ml_XL_35 : Cond.methodLink RL 35 yX7_about ∈ TBL := tm (i := 627) (by decide +kernel) (by decide +kernel)
theorem im_X7_about : Cond.instanceMethod yX7_about ∈ TBL := tm (i := 628) (by decide +kernel) (by decide +kernel)
theorem se_X7_about : Cond.selects RX7 yX7_about yX7_about ∈ TBL := tm (i := 629) (by decide +kernel) (by decide +kernel)
theorem cd_X7_about : Cond.code yX7_about cX7_about 3 (some .int) ∈ TBL := tm (i := 630) (by decide +kernel) (by decide +kernel)
theorem vw_X7_about : VW RX7 yX7_about cX7_about 3 (some .int) 2 5 := ⟨im_X7_about, se_X7_about, ini_X7, cd_X7_about, ⟨_, _, rfl⟩, by decide +kernel⟩
theorem ml_XL_36 : Cond.methodLink RL 36 yX6_chain ∈ TBL := tm (i := 265) (by decide +kernel) (by decide +kernel)
theorem im_X6_chain : Cond.instanceMethod yX6_chain ∈ TBL := tm (i := 266) (by decide +kernel) (by decide +kernel)
theorem se_X6_chain : Cond.selects RX6 yX6_chain yX6_chain ∈ TBL := tm (i := 267) (by decide +kernel) (by decide +kernel)
theorem cd_X6_chain : Cond.code yX6_chain cX6_chain 2 (some .int) ∈ TBL := tm (i := 268) (by decide +kernel) (by decide +kernel)
theorem vw_X6_chain : VW RX6 yX6_chain cX6_chain 2 (some .int) 1 4 := ⟨im_X6_chain, se_X6_chain, ini_X6, cd_X6_chain, ⟨_, _, rfl⟩, by decide +kernel⟩
theorem ml_XL_39 : Cond.methodLink RL 39 yX7_chain ∈ TBL := tm (i := 631) (by decide +kernel) (by decide +kernel)
theorem im_X7_chain : Cond.instanceMethod yX7_chain ∈ TBL := tm (i := 632) (by decide +kernel) (by decide +kernel)
theorem se_X7_chain : Cond.selects RX7 yX7_chain yX7_chain ∈ TBL := tm (i := 633) (by decide +kernel) (by decide +kernel)
theorem cd_X7_chain : Cond.code yX7_chain cX7_chain 2 (some .int) ∈ TBL := tm (i := 634) (by decide +kernel) (by decide +kernel)
theorem vw_X7_chain : VW RX7 yX7_chain cX7_chain 2 (some .int) 1 5 := ⟨im_X7_chain, se_X7_chain, ini_X7, cd_X7_chain, ⟨_, _, rfl⟩, by decide +kernel⟩
theorem ml_XL_40 : Cond.methodLink RL 40 yX6_unchain ∈ TBL := tm (i := 269) (by decide +kernel) (by decide +kernel)
theorem im_X6_unchain : Cond.instanceMethod yX6_unchain ∈ TBL := tm (i := 270) (by decide +kernel) (by decide +kernel)
theorem se_X6_unchain : Cond.selects RX6 yX6_unchain yX6_unchain ∈ TBL := tm (i := 271) (by decide +kernel) (by decide +kernel)
theorem cd_X6_unchain : Cond.code yX6_unchain cX6_unchain 1 (some .int) ∈ TBL := tm (i := 272) (by decide +kernel) (by decide +kernel)
theorem vw_X6_unchain : VW RX6 yX6_unchain cX6_unchain 1 (some .int) 0 4 := ⟨im_X6_unchain, se_X6_unchain, ini_X6, cd_X6_unchain, ⟨_, _, rfl⟩, by decide +kernel⟩
theorem ml_XL_43 : Cond.methodLink RL 43 yX7_unchain ∈ TBL := tm (i := 635) (by decide +kernel) (by decide +kernel)
theorem im_X7_unchain : Cond.instanceMethod yX7_unchain ∈ TBL := tm (i := 636) (by decide +kernel) (by decide +kernel)
theorem se_X7_unchain : Cond.selects RX7 yX7_unchain yX7_unchain ∈ TBL := tm (i := 637) (by decide +kernel) (by decide +kernel)
theorem cd_X7_unchain : Cond.code yX7_unchain cX7_unchain 1 (some .int) ∈ TBL := tm (i := 638) (by decide +kernel) (by decide +kernel)
theorem vw_X7_unchain : VW RX7 yX7_unchain cX7_unchain 1 (some .int) 0 5 := ⟨im_X7_unchain, se_X7_unchain, ini_X7, cd_X7_unchain, ⟨_, _, rfl⟩, by decide +kernel⟩
theorem ml_XL_44 : Cond.methodLink RL 44 yX6_text ∈ TBL := tm (i := 277) (by decide +kernel) (by decide +kernel)
theorem im_X6_text : Cond.instanceMethod yX6_text ∈ TBL := tm (i := 278) (by decide +kernel) (by decide +kernel)
theorem se_X6_text : Cond.selects RX6 yX6_text yX6_text ∈ TBL := tm (i := 279) (by decide +kernel) (by decide +kernel)
theorem cd_X6_text : Cond.code yX6_text cX6_text 1 (some .int) ∈ TBL := tm (i := 280) (by decide +kernel) (by decide +kernel)
theorem vw_X6_text : VW RX6 yX6_text cX6_text 1 (some .int) 0 4 := ⟨im_X6_text, se_X6_text, ini_X6, cd_X6_text, ⟨_, _, rfl⟩, by decide +kernel⟩
theorem ml_XL_47 : Cond.methodLink RL 47 yX7_text ∈ TBL := tm (i := 639) (by decide +kernel) (by decide +kernel)
theorem im_X7_text : Cond.instanceMethod yX7_text ∈ TBL := tm (i := 640) (by decide +kernel) (by decide +kernel)
theorem se_X7_text : Cond.selects RX7 yX7_text yX7_text ∈ TBL := tm (i := 641) (by decide +kernel) (by decide +kernel)
theorem cd_X7_text : Cond.code yX7_text cX7_text 2 (some .int) ∈ TBL := tm (i := 642) (by decide +kernel) (by decide +kernel)
theorem vw_X7_text : VW RX7 yX7_text cX7_text 2 (some .int) 0 5 := ⟨im_X7_text, se_X7_text, ini_X7, cd_X7_text, ⟨_, _, rfl⟩, by decide +kernel⟩
theorem ml_XL_48 : Cond.methodLink RL 48 yX6_behind ∈ TBL := tm (i := 293) (by decide +kernel) (by decide +kernel)
theorem im_X6_behind : Cond.instanceMethod yX6_behind ∈ TBL := tm (i := 294) (by decide +kernel) (by decide +kernel)
theorem se_X6_behind : Cond.selects RX6 yX6_behind yX6_behind ∈ TBL := tm (i := 295) (by decide +kernel) (by decide +kernel)
theorem cd_X6_behind : Cond.code yX6_behind cX6_behind 4 (some .int) ∈ TBL := tm (i := 296) (by decide +kernel) (by decide +kernel)
theorem vw_X6_behind : VW RX6 yX6_behind cX6_behind 4 (some .int) 2 4 := ⟨im_X6_behind, se_X6_behind, ini_X6, cd_X6_behind, ⟨_, _, rfl⟩, by decide +kernel⟩
theorem ml_XL_51 : Cond.methodLink RL 51 yX7_behind ∈ TBL := tm (i := 643) (by decide +kernel) (by decide +kernel)
theorem im_X7_behind : Cond.instanceMethod yX7_behind ∈ TBL := tm (i := 644) (by decide +kernel) (by decide +kernel)
theorem se_X7_behind : Cond.selects RX7 yX7_behind yX7_behind ∈ TBL := tm (i := 645) (by decide +kernel) (by decide +kernel)
theorem cd_X7_behind : Cond.code yX7_behind cX7_behind 4 (some .int) ∈ TBL := tm (i := 646) (by decide +kernel) (by decide +kernel)
theorem vw_X7_behind : VW RX7 yX7_behind cX7_behind 4 (some .int) 2 5 := ⟨im_X7_behind, se_X7_behind, ini_X7, cd_X7_behind, ⟨_, _, rfl⟩, by decide +kernel⟩
theorem ml_XL_52 : Cond.methodLink RL 52 yX6_barred ∈ TBL := tm (i := 344) (by decide +kernel) (by decide +kernel)
theorem im_X6_barred : Cond.instanceMethod yX6_barred ∈ TBL := tm (i := 345) (by decide +kernel) (by decide +kernel)
theorem se_X6_barred : Cond.selects RX6 yX6_barred yX6_barred ∈ TBL := tm (i := 346) (by decide +kernel) (by decide +kernel)
theorem cd_X6_barred : Cond.code yX6_barred cX6_barred 2 (some .int) ∈ TBL := tm (i := 347) (by decide +kernel) (by decide +kernel)
theorem vw_X6_barred : VW RX6 yX6_barred cX6_barred 2 (some .int) 0 4 := ⟨im_X6_barred, se_X6_barred, ini_X6, cd_X6_barred, ⟨_, _, rfl⟩, by decide +kernel⟩
theorem ml_XL_55 : Cond.methodLink RL 55 yX7_barred ∈ TBL := tm (i := 674) (by decide +kernel) (by decide +kernel)
theorem im_X7_barred : Cond.instanceMethod yX7_barred ∈ TBL := tm (i := 675) (by decide +kernel) (by decide +kernel)
theorem se_X7_barred : Cond.selects RX7 yX7_barred yX7_barred ∈ TBL := tm (i := 676) (by decide +kernel) (by decide +kernel)
theorem cd_X7_barred : Cond.code yX7_barred cX7_barred 2 (some .int) ∈ TBL := tm (i := 677) (by decide +kernel) (by decide +kernel)
theorem vw_X7_barred : VW RX7 yX7_barred cX7_barred 2 (some .int) 0 5 := ⟨im_X7_barred, se_X7_barred, ini_X7, cd_X7_barred, ⟨_, _, rfl⟩, by decide +kernel⟩
theorem ml_XL_56 : Cond.methodLink RL 56 yX6_grows ∈ TBL := tm (i := 352) (by decide +kernel) (by decide +kernel)
theorem im_X6_grows : Cond.instanceMethod yX6_grows ∈ TBL := tm (i := 353) (by decide +kernel) (by decide +kernel)
theorem se_X6_grows : Cond.selects RX6 yX6_grows yX6_grows ∈ TBL := tm (i := 354) (by decide +kernel) (by decide +kernel)
theorem cd_X6_grows : Cond.code yX6_grows cX6_grows 4 (some .int) ∈ TBL := tm (i := 355) (by decide +kernel) (by decide +kernel)
theorem vw_X6_grows : VW RX6 yX6_grows cX6_grows 4 (some .int) 1 4 := ⟨im_X6_grows, se_X6_grows, ini_X6, cd_X6_grows, ⟨_, _, rfl⟩, by decide +kernel⟩
theorem ml_XL_59 : Cond.methodLink RL 59 yX7_grows ∈ TBL := tm (i := 678) (by decide +kernel) (by decide +kernel)
theorem im_X7_grows : Cond.instanceMethod yX7_grows ∈ TBL := tm (i := 679) (by decide +kernel) (by decide +kernel)
theorem se_X7_grows : Cond.selects RX7 yX7_grows yX7_grows ∈ TBL := tm (i := 680) (by decide +kernel) (by decide +kernel)
theorem cd_X7_grows : Cond.code yX7_grows cX7_grows 2 (some .int) ∈ TBL := tm (i := 681) (by decide +kernel) (by decide +kernel)
theorem vw_X7_grows : VW RX7 yX7_grows cX7_grows 2 (some .int) 1 5 := ⟨im_X7_grows, se_X7_grows, ini_X7, cd_X7_grows, ⟨_, _, rfl⟩, by decide +kernel⟩
theorem ml_XL_60 : Cond.methodLink RL 60 yX6_safe ∈ TBL := tm (i := 360) (by decide +kernel) (by decide +kernel)
theorem im_X6_safe : Cond.instanceMethod yX6_safe ∈ TBL := tm (i := 361) (by decide +kernel) (by decide +kernel)
theorem se_X6_safe : Cond.selects RX6 yX6_safe yX6_safe ∈ TBL := tm (i := 362) (by decide +kernel) (by decide +kernel)
theorem cd_X6_safe : Cond.code yX6_safe cX6_safe 5 (some .int) ∈ TBL := tm (i := 363) (by decide +kernel) (by decide +kernel)
theorem vw_X6_safe : VW RX6 yX6_safe cX6_safe 5 (some .int) 1 4 := ⟨im_X6_safe, se_X6_safe, ini_X6, cd_X6_safe, ⟨_, _, rfl⟩, by decide +kernel⟩
theorem ml_XL_63 : Cond.methodLink RL 63 yX7_safe ∈ TBL := tm (i := 690) (by decide +kernel) (by decide +kernel)
theorem im_X7_safe : Cond.instanceMethod yX7_safe ∈ TBL := tm (i := 691) (by decide +kernel) (by decide +kernel)
theorem se_X7_safe : Cond.selects RX7 yX7_safe yX7_safe ∈ TBL := tm (i := 692) (by decide +kernel) (by decide +kernel)
theorem cd_X7_safe : Cond.code yX7_safe cX7_safe 4 (some .int) ∈ TBL := tm (i := 693) (by decide +kernel) (by decide +kernel)
theorem vw_X7_safe : VW RX7 yX7_safe cX7_safe 4 (some .int) 1 5 := ⟨im_X7_safe, se_X7_safe, ini_X7, cd_X7_safe, ⟨_, _, rfl⟩, by decide +kernel⟩
theorem ml_XL_64 : Cond.methodLink RL 64 yX6_dearest ∈ TBL := tm (i := 364) (by decide +kernel) (by decide +kernel)
theorem im_X6_dearest : Cond.instanceMethod yX6_dearest ∈ TBL := tm (i := 365) (by decide +kernel) (by decide +kernel)
theorem se_X6_dearest : Cond.selects RX6 yX6_dearest yX6_dearest ∈ TBL := tm (i := 366) (by decide +kernel) (by decide +kernel)
theorem cd_X6_dearest : Cond.code yX6_dearest cX6_dearest 5 (some .int) ∈ TBL := tm (i := 367) (by decide +kernel) (by decide +kernel)
theorem vw_X6_dearest : VW RX6 yX6_dearest cX6_dearest 5 (some .int) 0 4 := ⟨im_X6_dearest, se_X6_dearest, ini_X6, cd_X6_dearest, ⟨_, _, rfl⟩, by decide +kernel⟩
theorem ml_XL_67 : Cond.methodLink RL 67 yX7_dearest ∈ TBL := tm (i := 694) (by decide +kernel) (by decide +kernel)
theorem im_X7_dearest : Cond.instanceMethod yX7_dearest ∈ TBL := tm (i := 695) (by decide +kernel) (by decide +kernel)
theorem se_X7_dearest : Cond.selects RX7 yX7_dearest yX7_dearest ∈ TBL := tm (i := 696) (by decide +kernel) (by decide +kernel)
theorem cd_X7_dearest : Cond.code yX7_dearest cX7_dearest 5 (some .int) ∈ TBL := tm (i := 697) (by decide +kernel) (by decide +kernel)
theorem vw_X7_dearest : VW RX7 yX7_dearest cX7_dearest 5 (some .int) 0 5 := ⟨im_X7_dearest, se_X7_dearest, ini_X7, cd_X7_dearest, ⟨_, _, rfl⟩, by decide +kernel⟩
theorem ml_XL_68 : Cond.methodLink RL 68 yX6_read ∈ TBL := tm (i := 368) (by decide +kernel) (by decide +kernel)
theorem im_X6_read : Cond.instanceMethod yX6_read ∈ TBL := tm (i := 369) (by decide +kernel) (by decide +kernel)
theorem se_X6_read : Cond.selects RX6 yX6_read yX6_read ∈ TBL := tm (i := 370) (by decide +kernel) (by decide +kernel)
theorem cd_X6_read : Cond.code yX6_read cX6_read 3 (some .int) ∈ TBL := tm (i := 371) (by decide +kernel) (by decide +kernel)
theorem vw_X6_read : VW RX6 yX6_read cX6_read 3 (some .int) 1 4 := ⟨im_X6_read, se_X6_read, ini_X6, cd_X6_read, ⟨_, _, rfl⟩, by decide +kernel⟩
theorem ml_XL_71 : Cond.methodLink RL 71 yX7_read ∈ TBL := tm (i := 698) (by decide +kernel) (by decide +kernel)
theorem im_X7_read : Cond.instanceMethod yX7_read ∈ TBL := tm (i := 699) (by decide +kernel) (by decide +kernel)
theorem se_X7_read : Cond.selects RX7 yX7_read yX7_read ∈ TBL := tm (i := 700) (by decide +kernel) (by decide +kernel)
theorem cd_X7_read : Cond.code yX7_read cX7_read 3 (some .int) ∈ TBL := tm (i := 701) (by decide +kernel) (by decide +kernel)
theorem vw_X7_read : VW RX7 yX7_read cX7_read 3 (some .int) 1 5 := ⟨im_X7_read, se_X7_read, ini_X7, cd_X7_read, ⟨_, _, rfl⟩, by decide +kernel⟩
theorem ml_XL_72 : Cond.methodLink RL 72 yX6_spills ∈ TBL := tm (i := 402) (by decide +kernel) (by decide +kernel)
theorem im_X6_spills : Cond.instanceMethod yX6_spills ∈ TBL := tm (i := 403) (by decide +kernel) (by decide +kernel)
theorem se_X6_spills : Cond.selects RX6 yX6_spills yX6_spills ∈ TBL := tm (i := 404) (by decide +kernel) (by decide +kernel)
theorem cd_X6_spills : Cond.code yX6_spills cX6_spills 2 (some .int) ∈ TBL := tm (i := 405) (by decide +kernel) (by decide +kernel)
theorem vw_X6_spills : VW RX6 yX6_spills cX6_spills 2 (some .int) 1 4 := ⟨im_X6_spills, se_X6_spills, ini_X6, cd_X6_spills, ⟨_, _, rfl⟩, by decide +kernel⟩
theorem ml_XL_75 : Cond.methodLink RL 75 yX7_spills ∈ TBL := tm (i := 721) (by decide +kernel) (by decide +kernel)
theorem im_X7_spills : Cond.instanceMethod yX7_spills ∈ TBL := tm (i := 722) (by decide +kernel) (by decide +kernel)
theorem se_X7_spills : Cond.selects RX7 yX7_spills yX7_spills ∈ TBL := tm (i := 723) (by decide +kernel) (by decide +kernel)
theorem cd_X7_spills : Cond.code yX7_spills cX7_spills 3 (some .int) ∈ TBL := tm (i := 724) (by decide +kernel) (by decide +kernel)
theorem vw_X7_spills : VW RX7 yX7_spills cX7_spills 3 (some .int) 1 5 := ⟨im_X7_spills, se_X7_spills, ini_X7, cd_X7_spills, ⟨_, _, rfl⟩, by decide +kernel⟩
theorem ml_XL_76 : Cond.methodLink RL 76 yX6_spill ∈ TBL := tm (i := 418) (by decide +kernel) (by decide +kernel)
theorem im_X6_spill : Cond.instanceMethod yX6_spill ∈ TBL := tm (i := 419) (by decide +kernel) (by decide +kernel)
theorem se_X6_spill : Cond.selects RX6 yX6_spill yX6_spill ∈ TBL := tm (i := 420) (by decide +kernel) (by decide +kernel)
theorem cd_X6_spill : Cond.code yX6_spill cX6_spill 3 (some .int) ∈ TBL := tm (i := 421) (by decide +kernel) (by decide +kernel)
theorem vw_X6_spill : VW RX6 yX6_spill cX6_spill 3 (some .int) 2 4 := ⟨im_X6_spill, se_X6_spill, ini_X6, cd_X6_spill, ⟨_, _, rfl⟩, by decide +kernel⟩
theorem ml_XL_79 : Cond.methodLink RL 79 yX7_spill ∈ TBL := tm (i := 733) (by decide +kernel) (by decide +kernel)
theorem im_X7_spill : Cond.instanceMethod yX7_spill ∈ TBL := tm (i := 734) (by decide +kernel) (by decide +kernel)
theorem se_X7_spill : Cond.selects RX7 yX7_spill yX7_spill ∈ TBL := tm (i := 735) (by decide +kernel) (by decide +kernel)
theorem cd_X7_spill : Cond.code yX7_spill cX7_spill 8 (some .int) ∈ TBL := tm (i := 736) (by decide +kernel) (by decide +kernel)
theorem vw_X7_spill : VW RX7 yX7_spill cX7_spill 8 (some .int) 2 5 := ⟨im_X7_spill, se_X7_spill, ini_X7, cd_X7_spill, ⟨_, _, rfl⟩, by decide +kernel⟩
theorem ml_XL_80 : Cond.methodLink RL 80 yX6_twice ∈ TBL := tm (i := 448) (by decide +kernel) (by decide +kernel)
theorem im_X6_twice : Cond.instanceMethod yX6_twice ∈ TBL := tm (i := 449) (by decide +kernel) (by decide +kernel)
theorem se_X6_twice : Cond.selects RX6 yX6_twice yX6_twice ∈ TBL := tm (i := 450) (by decide +kernel) (by decide +kernel)
theorem cd_X6_twice : Cond.code yX6_twice cX6_twice 3 (some .int) ∈ TBL := tm (i := 451) (by decide +kernel) (by decide +kernel)
theorem vw_X6_twice : VW RX6 yX6_twice cX6_twice 3 (some .int) 1 4 := ⟨im_X6_twice, se_X6_twice, ini_X6, cd_X6_twice, ⟨_, _, rfl⟩, by decide +kernel⟩
theorem ml_XL_83 : Cond.methodLink RL 83 yX7_twice ∈ TBL := tm (i := 741) (by decide +kernel) (by decide +kernel)
theorem im_X7_twice : Cond.instanceMethod yX7_twice ∈ TBL := tm (i := 742) (by decide +kernel) (by decide +kernel)
theorem se_X7_twice : Cond.selects RX7 yX7_twice yX7_twice ∈ TBL := tm (i := 743) (by decide +kernel) (by decide +kernel)
theorem cd_X7_twice : Cond.code yX7_twice cX7_twice 4 (some .int) ∈ TBL := tm (i := 744) (by decide +kernel) (by decide +kernel)
theorem vw_X7_twice : VW RX7 yX7_twice cX7_twice 4 (some .int) 1 5 := ⟨im_X7_twice, se_X7_twice, ini_X7, cd_X7_twice, ⟨_, _, rfl⟩, by decide +kernel⟩
theorem ml_XL_84 : Cond.methodLink RL 84 yX6_rows ∈ TBL := tm (i := 452) (by decide +kernel) (by decide +kernel)
theorem im_X6_rows : Cond.instanceMethod yX6_rows ∈ TBL := tm (i := 453) (by decide +kernel) (by decide +kernel)
theorem se_X6_rows : Cond.selects RX6 yX6_rows yX6_rows ∈ TBL := tm (i := 454) (by decide +kernel) (by decide +kernel)
theorem cd_X6_rows : Cond.code yX6_rows cX6_rows 6 (some .int) ∈ TBL := tm (i := 455) (by decide +kernel) (by decide +kernel)
theorem vw_X6_rows : VW RX6 yX6_rows cX6_rows 6 (some .int) 1 4 := ⟨im_X6_rows, se_X6_rows, ini_X6, cd_X6_rows, ⟨_, _, rfl⟩, by decide +kernel⟩
theorem ml_XL_87 : Cond.methodLink RL 87 yX7_rows ∈ TBL := tm (i := 745) (by decide +kernel) (by decide +kernel)
theorem im_X7_rows : Cond.instanceMethod yX7_rows ∈ TBL := tm (i := 746) (by decide +kernel) (by decide +kernel)
theorem se_X7_rows : Cond.selects RX7 yX7_rows yX7_rows ∈ TBL := tm (i := 747) (by decide +kernel) (by decide +kernel)
theorem cd_X7_rows : Cond.code yX7_rows cX7_rows 10 (some .int) ∈ TBL := tm (i := 748) (by decide +kernel) (by decide +kernel)
theorem vw_X7_rows : VW RX7 yX7_rows cX7_rows 10 (some .int) 1 5 := ⟨im_X7_rows, se_X7_rows, ini_X7, cd_X7_rows, ⟨_, _, rfl⟩, by decide +kernel⟩
theorem ml_XL_88 : Cond.methodLink RL 88 yX6_order ∈ TBL := tm (i := 467) (by decide +kernel) (by decide +kernel)
theorem im_X6_order : Cond.instanceMethod yX6_order ∈ TBL := tm (i := 468) (by decide +kernel) (by decide +kernel)
theorem se_X6_order : Cond.selects RX6 yX6_order yX6_order ∈ TBL := tm (i := 469) (by decide +kernel) (by decide +kernel)
theorem cd_X6_order : Cond.code yX6_order cX6_order 3 (some .int) ∈ TBL := tm (i := 470) (by decide +kernel) (by decide +kernel)
theorem vw_X6_order : VW RX6 yX6_order cX6_order 3 (some .int) 1 4 := ⟨im_X6_order, se_X6_order, ini_X6, cd_X6_order, ⟨_, _, rfl⟩, by decide +kernel⟩
theorem ml_XL_91 : Cond.methodLink RL 91 yX7_order ∈ TBL := tm (i := 757) (by decide +kernel) (by decide +kernel)
theorem im_X7_order : Cond.instanceMethod yX7_order ∈ TBL := tm (i := 758) (by decide +kernel) (by decide +kernel)
theorem se_X7_order : Cond.selects RX7 yX7_order yX7_order ∈ TBL := tm (i := 759) (by decide +kernel) (by decide +kernel)
theorem cd_X7_order : Cond.code yX7_order cX7_order 5 (some .int) ∈ TBL := tm (i := 760) (by decide +kernel) (by decide +kernel)
theorem vw_X7_order : VW RX7 yX7_order cX7_order 5 (some .int) 1 5 := ⟨im_X7_order, se_X7_order, ini_X7, cd_X7_order, ⟨_, _, rfl⟩, by decide +kernel⟩
theorem ml_XL_92 : Cond.methodLink RL 92 yX6_image ∈ TBL := tm (i := 490) (by decide +kernel) (by decide +kernel)
theorem im_X6_image : Cond.instanceMethod yX6_image ∈ TBL := tm (i := 491) (by decide +kernel) (by decide +kernel)
theorem se_X6_image : Cond.selects RX6 yX6_image yX6_image ∈ TBL := tm (i := 492) (by decide +kernel) (by decide +kernel)
theorem cd_X6_image : Cond.code yX6_image cX6_image 3 (some .int) ∈ TBL := tm (i := 493) (by decide +kernel) (by decide +kernel)
theorem vw_X6_image : VW RX6 yX6_image cX6_image 3 (some .int) 1 4 := ⟨im_X6_image, se_X6_image, ini_X6, cd_X6_image, ⟨_, _, rfl⟩, by decide +kernel⟩
theorem ml_XL_95 : Cond.methodLink RL 95 yX7_image ∈ TBL := tm (i := 765) (by decide +kernel) (by decide +kernel)
theorem im_X7_image : Cond.instanceMethod yX7_image ∈ TBL := tm (i := 766) (by decide +kernel) (by decide +kernel)
theorem se_X7_image : Cond.selects RX7 yX7_image yX7_image ∈ TBL := tm (i := 767) (by decide +kernel) (by decide +kernel)
theorem cd_X7_image : Cond.code yX7_image cX7_image 4 (some .int) ∈ TBL := tm (i := 768) (by decide +kernel) (by decide +kernel)
theorem vw_X7_image : VW RX7 yX7_image cX7_image 4 (some .int) 1 5 := ⟨im_X7_image, se_X7_image, ini_X7, cd_X7_image, ⟨_, _, rfl⟩, by decide +kernel⟩
theorem ml_XL_96 : Cond.methodLink RL 96 yX6_restore ∈ TBL := tm (i := 512) (by decide +kernel) (by decide +kernel)
theorem im_X6_restore : Cond.instanceMethod yX6_restore ∈ TBL := tm (i := 513) (by decide +kernel) (by decide +kernel)
theorem se_X6_restore : Cond.selects RX6 yX6_restore yX6_restore ∈ TBL := tm (i := 514) (by decide +kernel) (by decide +kernel)
theorem cd_X6_restore : Cond.code yX6_restore cX6_restore 3 (some .int) ∈ TBL := tm (i := 515) (by decide +kernel) (by decide +kernel)
theorem vw_X6_restore : VW RX6 yX6_restore cX6_restore 3 (some .int) 1 4 := ⟨im_X6_restore, se_X6_restore, ini_X6, cd_X6_restore, ⟨_, _, rfl⟩, by decide +kernel⟩
theorem ml_XL_99 : Cond.methodLink RL 99 yX7_restore ∈ TBL := tm (i := 769) (by decide +kernel) (by decide +kernel)
theorem im_X7_restore : Cond.instanceMethod yX7_restore ∈ TBL := tm (i := 770) (by decide +kernel) (by decide +kernel)
theorem se_X7_restore : Cond.selects RX7 yX7_restore yX7_restore ∈ TBL := tm (i := 771) (by decide +kernel) (by decide +kernel)
theorem cd_X7_restore : Cond.code yX7_restore cX7_restore 4 (some .int) ∈ TBL := tm (i := 772) (by decide +kernel) (by decide +kernel)
theorem vw_X7_restore : VW RX7 yX7_restore cX7_restore 4 (some .int) 1 5 := ⟨im_X7_restore, se_X7_restore, ini_X7, cd_X7_restore, ⟨_, _, rfl⟩, by decide +kernel⟩
theorem ml_XL_100 : Cond.methodLink RL 100 yX6_told ∈ TBL := tm (i := 516) (by decide +kernel) (by decide +kernel)
theorem im_X6_told : Cond.instanceMethod yX6_told ∈ TBL := tm (i := 517) (by decide +kernel) (by decide +kernel)
theorem se_X6_told : Cond.selects RX6 yX6_told yX6_told ∈ TBL := tm (i := 518) (by decide +kernel) (by decide +kernel)
theorem cd_X6_told : Cond.code yX6_told cX6_told 2 (some .int) ∈ TBL := tm (i := 519) (by decide +kernel) (by decide +kernel)
theorem vw_X6_told : VW RX6 yX6_told cX6_told 2 (some .int) 1 4 := ⟨im_X6_told, se_X6_told, ini_X6, cd_X6_told, ⟨_, _, rfl⟩, by decide +kernel⟩
theorem ml_XL_103 : Cond.methodLink RL 103 yX7_told ∈ TBL := tm (i := 773) (by decide +kernel) (by decide +kernel)
theorem im_X7_told : Cond.instanceMethod yX7_told ∈ TBL := tm (i := 774) (by decide +kernel) (by decide +kernel)
theorem se_X7_told : Cond.selects RX7 yX7_told yX7_told ∈ TBL := tm (i := 775) (by decide +kernel) (by decide +kernel)
theorem cd_X7_told : Cond.code yX7_told cX7_told 2 (some .int) ∈ TBL := tm (i := 776) (by decide +kernel) (by decide +kernel)
theorem vw_X7_told : VW RX7 yX7_told cX7_told 2 (some .int) 1 5 := ⟨im_X7_told, se_X7_told, ini_X7, cd_X7_told, ⟨_, _, rfl⟩, by decide +kernel⟩
theorem kc_3 (x : Int32) : x + Int32.ofInt (3) = x + (3 : Int32) := by rw [show Int32.ofInt (3) = (3 : Int32) by decide +kernel]
theorem kt_3 : (3 : Int32).toInt = 3 := by decide +kernel
theorem kt_4 : (4 : Int32).toInt = 4 := by decide +kernel
theorem kt_5 : (5 : Int32).toInt = 5 := by decide +kernel
theorem kt_6 : (6 : Int32).toInt = 6 := by decide +kernel
theorem kt_7 : (7 : Int32).toInt = 7 := by decide +kernel
theorem kt_8 : (8 : Int32).toInt = 8 := by decide +kernel
theorem kt_9 : (9 : Int32).toInt = 9 := by decide +kernel
theorem kt_10 : (10 : Int32).toInt = 10 := by decide +kernel
theorem kt_11 : (11 : Int32).toInt = 11 := by decide +kernel
theorem kt_12 : (12 : Int32).toInt = 12 := by decide +kernel
theorem kt_13 : (13 : Int32).toInt = 13 := by decide +kernel
theorem kt_14 : (14 : Int32).toInt = 14 := by decide +kernel
theorem kt_15 : (15 : Int32).toInt = 15 := by decide +kernel
theorem kt_16 : (16 : Int32).toInt = 16 := by decide +kernel
theorem kt_17 : (17 : Int32).toInt = 17 := by decide +kernel
theorem kt_18 : (18 : Int32).toInt = 18 := by decide +kernel
theorem kt_19 : (19 : Int32).toInt = 19 := by decide +kernel
theorem kt_20 : (20 : Int32).toInt = 20 := by decide +kernel
theorem kt_21 : (21 : Int32).toInt = 21 := by decide +kernel
theorem cl_XL_7 : Cond.classLink RL 7 RX6 ∈ TBL := tm (i := 47) (by decide +kernel) (by decide +kernel)
theorem ins_X6 : Cond.instantiable RX6 9 ∈ TBL := tm (i := 48) (by decide +kernel) (by decide +kernel)
theorem im_X6_init : Cond.instanceMethod yX6_init ∈ TBL := tm (i := 50) (by decide +kernel) (by decide +kernel)
theorem cd_X6_init : Cond.code yX6_init cX6_init 1 none ∈ TBL := tm (i := 51) (by decide +kernel) (by decide +kernel)
theorem ml_XL_9 : Cond.methodLink RL 9 yX6_init ∈ TBL := tm (i := 49) (by decide +kernel) (by decide +kernel)
theorem cl_XL_10 : Cond.classLink RL 10 RX7 ∈ TBL := tm (i := 520) (by decide +kernel) (by decide +kernel)
theorem ins_X7 : Cond.instantiable RX7 22 ∈ TBL := tm (i := 521) (by decide +kernel) (by decide +kernel)
theorem im_X7_init : Cond.instanceMethod yX7_init ∈ TBL := tm (i := 523) (by decide +kernel) (by decide +kernel)
theorem cd_X7_init : Cond.code yX7_init cX7_init 2 none ∈ TBL := tm (i := 524) (by decide +kernel) (by decide +kernel)
theorem ml_XL_12 : Cond.methodLink RL 12 yX7_init ∈ TBL := tm (i := 522) (by decide +kernel) (by decide +kernel)
theorem rf_L_X6_about : RF rm_X6_about room_1 3 := ⟨⟨Nat.le_of_ble_eq_true rfl, Nat.le_of_ble_eq_true rfl⟩, rfl, rfl⟩
theorem rf_L_X6_barred : RF rm_X6_barred room_1 2 := ⟨⟨Nat.le_of_ble_eq_true rfl, Nat.le_of_ble_eq_true rfl⟩, rfl, rfl⟩
theorem rf_L_X6_behind : RF rm_X6_behind room_1 4 := ⟨⟨Nat.le_of_ble_eq_true rfl, Nat.le_of_ble_eq_true rfl⟩, rfl, rfl⟩
theorem rf_L_X6_chain : RF rm_X6_chain room_1 2 := ⟨⟨Nat.le_of_ble_eq_true rfl, Nat.le_of_ble_eq_true rfl⟩, rfl, rfl⟩
theorem rf_L_X6_dearest : RF rm_X6_dearest room_1 5 := ⟨⟨Nat.le_of_ble_eq_true rfl, Nat.le_of_ble_eq_true rfl⟩, rfl, rfl⟩
theorem rf_L_X6_fault : RF rm_X6_fault room_1 1 := ⟨⟨Nat.le_of_ble_eq_true rfl, Nat.le_of_ble_eq_true rfl⟩, rfl, rfl⟩
theorem rf_L_X6_grows : RF rm_X6_grows room_1 4 := ⟨⟨Nat.le_of_ble_eq_true rfl, Nat.le_of_ble_eq_true rfl⟩, rfl, rfl⟩
theorem rf_L_X6_image : RF rm_X6_image room_1 3 := ⟨⟨Nat.le_of_ble_eq_true rfl, Nat.le_of_ble_eq_true rfl⟩, rfl, rfl⟩
theorem rf_L_X6_layer : RF rm_X6_layer room_1 3 := ⟨⟨Nat.le_of_ble_eq_true rfl, Nat.le_of_ble_eq_true rfl⟩, rfl, rfl⟩
theorem rf_L_X6_order : RF rm_X6_order room_1 3 := ⟨⟨Nat.le_of_ble_eq_true rfl, Nat.le_of_ble_eq_true rfl⟩, rfl, rfl⟩
theorem rf_L_X6_read : RF rm_X6_read room_1 3 := ⟨⟨Nat.le_of_ble_eq_true rfl, Nat.le_of_ble_eq_true rfl⟩, rfl, rfl⟩
theorem rf_L_X6_restore : RF rm_X6_restore room_1 3 := ⟨⟨Nat.le_of_ble_eq_true rfl, Nat.le_of_ble_eq_true rfl⟩, rfl, rfl⟩
theorem rf_L_X6_rows : RF rm_X6_rows room_1 6 := ⟨⟨Nat.le_of_ble_eq_true rfl, Nat.le_of_ble_eq_true rfl⟩, rfl, rfl⟩
theorem rf_L_X6_safe : RF rm_X6_safe room_1 5 := ⟨⟨Nat.le_of_ble_eq_true rfl, Nat.le_of_ble_eq_true rfl⟩, rfl, rfl⟩
theorem rf_L_X6_say : RF rm_X6_say room_1 2 := ⟨⟨Nat.le_of_ble_eq_true rfl, Nat.le_of_ble_eq_true rfl⟩, rfl, rfl⟩
theorem rf_L_X6_spill : RF rm_X6_spill room_1 3 := ⟨⟨Nat.le_of_ble_eq_true rfl, Nat.le_of_ble_eq_true rfl⟩, rfl, rfl⟩
theorem rf_L_X6_spills : RF rm_X6_spills room_1 2 := ⟨⟨Nat.le_of_ble_eq_true rfl, Nat.le_of_ble_eq_true rfl⟩, rfl, rfl⟩
theorem rf_L_X6_text : RF rm_X6_text room_1 1 := ⟨⟨Nat.le_of_ble_eq_true rfl, Nat.le_of_ble_eq_true rfl⟩, rfl, rfl⟩
theorem rf_L_X6_told : RF rm_X6_told room_1 2 := ⟨⟨Nat.le_of_ble_eq_true rfl, Nat.le_of_ble_eq_true rfl⟩, rfl, rfl⟩
theorem rf_L_X6_twice : RF rm_X6_twice room_1 3 := ⟨⟨Nat.le_of_ble_eq_true rfl, Nat.le_of_ble_eq_true rfl⟩, rfl, rfl⟩
theorem rf_L_X6_unchain : RF rm_X6_unchain room_1 1 := ⟨⟨Nat.le_of_ble_eq_true rfl, Nat.le_of_ble_eq_true rfl⟩, rfl, rfl⟩
theorem rf_L_X6_wipe : RF rm_X6_wipe room_1 2 := ⟨⟨Nat.le_of_ble_eq_true rfl, Nat.le_of_ble_eq_true rfl⟩, rfl, rfl⟩
theorem rf_L_X7_about : RF rm_X7_about room_1 3 := ⟨⟨Nat.le_of_ble_eq_true rfl, Nat.le_of_ble_eq_true rfl⟩, rfl, rfl⟩
theorem rf_L_X7_barred : RF rm_X7_barred room_1 2 := ⟨⟨Nat.le_of_ble_eq_true rfl, Nat.le_of_ble_eq_true rfl⟩, rfl, rfl⟩
theorem rf_L_X7_behind : RF rm_X7_behind room_1 4 := ⟨⟨Nat.le_of_ble_eq_true rfl, Nat.le_of_ble_eq_true rfl⟩, rfl, rfl⟩
theorem rf_L_X7_chain : RF rm_X7_chain room_1 2 := ⟨⟨Nat.le_of_ble_eq_true rfl, Nat.le_of_ble_eq_true rfl⟩, rfl, rfl⟩
theorem rf_L_X7_dearest : RF rm_X7_dearest room_1 5 := ⟨⟨Nat.le_of_ble_eq_true rfl, Nat.le_of_ble_eq_true rfl⟩, rfl, rfl⟩
theorem rf_L_X7_fault : RF rm_X7_fault room_1 1 := ⟨⟨Nat.le_of_ble_eq_true rfl, Nat.le_of_ble_eq_true rfl⟩, rfl, rfl⟩
theorem rf_L_X7_grows : RF rm_X7_grows room_1 2 := ⟨⟨Nat.le_of_ble_eq_true rfl, Nat.le_of_ble_eq_true rfl⟩, rfl, rfl⟩
theorem rf_L_X7_image : RF rm_X7_image room_1 4 := ⟨⟨Nat.le_of_ble_eq_true rfl, Nat.le_of_ble_eq_true rfl⟩, rfl, rfl⟩
theorem rf_L_X7_layer : RF rm_X7_layer room_1 5 := ⟨⟨Nat.le_of_ble_eq_true rfl, Nat.le_of_ble_eq_true rfl⟩, rfl, rfl⟩
theorem rf_L_X7_order : RF rm_X7_order room_1 5 := ⟨⟨Nat.le_of_ble_eq_true rfl, Nat.le_of_ble_eq_true rfl⟩, rfl, rfl⟩
theorem rf_L_X7_read : RF rm_X7_read room_1 3 := ⟨⟨Nat.le_of_ble_eq_true rfl, Nat.le_of_ble_eq_true rfl⟩, rfl, rfl⟩
theorem rf_L_X7_restore : RF rm_X7_restore room_1 4 := ⟨⟨Nat.le_of_ble_eq_true rfl, Nat.le_of_ble_eq_true rfl⟩, rfl, rfl⟩
theorem rf_L_X7_rows : RF rm_X7_rows room_1 10 := ⟨⟨Nat.le_of_ble_eq_true rfl, Nat.le_of_ble_eq_true rfl⟩, rfl, rfl⟩
theorem rf_L_X7_safe : RF rm_X7_safe room_1 4 := ⟨⟨Nat.le_of_ble_eq_true rfl, Nat.le_of_ble_eq_true rfl⟩, rfl, rfl⟩
theorem rf_L_X7_say : RF rm_X7_say room_1 2 := ⟨⟨Nat.le_of_ble_eq_true rfl, Nat.le_of_ble_eq_true rfl⟩, rfl, rfl⟩
theorem rf_L_X7_spill : RF rm_X7_spill room_1 8 := ⟨⟨Nat.le_of_ble_eq_true rfl, Nat.le_of_ble_eq_true rfl⟩, rfl, rfl⟩
theorem rf_L_X7_spills : RF rm_X7_spills room_1 3 := ⟨⟨Nat.le_of_ble_eq_true rfl, Nat.le_of_ble_eq_true rfl⟩, rfl, rfl⟩
theorem rf_L_X7_text : RF rm_X7_text room_1 2 := ⟨⟨Nat.le_of_ble_eq_true rfl, Nat.le_of_ble_eq_true rfl⟩, rfl, rfl⟩
theorem rf_L_X7_told : RF rm_X7_told room_1 2 := ⟨⟨Nat.le_of_ble_eq_true rfl, Nat.le_of_ble_eq_true rfl⟩, rfl, rfl⟩
theorem rf_L_X7_twice : RF rm_X7_twice room_1 4 := ⟨⟨Nat.le_of_ble_eq_true rfl, Nat.le_of_ble_eq_true rfl⟩, rfl, rfl⟩
theorem rf_L_X7_unchain : RF rm_X7_unchain room_1 1 := ⟨⟨Nat.le_of_ble_eq_true rfl, Nat.le_of_ble_eq_true rfl⟩, rfl, rfl⟩
theorem rf_L_X7_wipe : RF rm_X7_wipe room_1 2 := ⟨⟨Nat.le_of_ble_eq_true rfl, Nat.le_of_ble_eq_true rfl⟩, rfl, rfl⟩
def f_L_612 (k18 : Nat → Nat → Nat → Int32 → VT → Option (Int32 × VT)) (l0 l1 l2 : Nat) (l3 : Int32) (V : VT) : Option (Int32 × VT) := k18 l0 l1 l2 (l3 + (3 : Int32)) V
theorem w_L_612 {g : GT} {K : KT} {P : PT} {n sl l0 l1 l2 : Nat} {res : Int32 × VT} (h : OK g RL code 4 Jvm.Pilot.@@N@@.ret) {k18 : Nat → Nat → Nat → Int32 → VT → Option (Int32 × VT)} (hk18 : ∀ (l3 : Int32) (V : VT), k18 l0 l1 l2 l3 V = some res → J g room_1 (LZ g) 4 K P V n sl 18 [some (.ref l0), some (.ref l1), some (.ref l2), some (.int l3)] []) {l3 : Int32} {V : VT} (hf : f_L_612 k18 l0 l1 l2 l3 V = some res) : J g room_1 (LZ g) 4 K P V n sl 612 [some (.ref l0), some (.ref l1), some (.ref l2), some (.int l3)] [] := by
  rw [f_L_612] at hf
  refine j_iinc (q := 615) _ [_, _, _, _] h dL_law_612 rfl (by decide) rfl (kc_3 _) rfl rfl ?_
  refine j_goto 18 h dL_law_615 (by decide) ?_
  exact hk18 _ _ hf
def f_L_c0 (K : KT) (P : PT) (xs : Nat → Int32) (Ls : Nat) (k18 : Nat → Nat → Nat → Int32 → VT → Option (Int32 × VT)) (l0 l1 l2 : Nat) (l3 : Int32) (V : VT) : Option (Int32 × VT) :=
  sX xs Ls (l3 + ((1 : Int32))) fun x1 => cV K l1 4 (f_X6_say K P l1 x1 V) fun x2 V3 => sX xs Ls (l3 + ((1 : Int32))) fun x4 => cV K l2 5 (f_X7_say K P l2 x4 V3) fun x5 V6 => if x2 = x5 then (f_L_612 k18 l0 l1 l2 l3 V6) else (some ((0 : Int32), V6))
set_option maxRecDepth 20000 in
theorem w_L_c0 {g : GT} {K : KT} {P : PT} {n sl l0 l1 l2 Ls : Nat} {xs : Nat → Int32} {res : Int32 × VT} (h : OK g RL code 4 Jvm.Pilot.@@N@@.ret) (hs : SC g l0 Ls xs) (hn : n ≤ 600000 ∧ sl ≤ 7302250) (h1 : res.1 = 1) {k18 : Nat → Nat → Nat → Int32 → VT → Option (Int32 × VT)} (hk18 : ∀ (l3 : Int32) (V : VT), k18 l0 l1 l2 l3 V = some res → J g room_1 (LZ g) 4 K P V n sl 18 [some (.ref l0), some (.ref l1), some (.ref l2), some (.int l3)] []) {l3 : Int32} {V : VT} (hf : f_L_c0 K P xs Ls k18 l0 l1 l2 l3 V = some res) : J g room_1 (LZ g) 4 K P V n sl 136 [some (.ref l0), some (.ref l1), some (.ref l2), some (.int l3)] [] := by
  rw [f_L_c0] at hf
  refine j_aload_n (q := 137) h dL_law_136 rfl rfl ?_
  refine j_aload_n (q := 138) h dL_law_137 rfl rfl ?_
  refine j_iload_n (q := 139) h dL_law_138 rfl rfl ?_
  refine j_iconst (q := 140) (1) h dL_law_139 ki_1 rfl ?_
  refine j_iadd (q := 141) h dL_law_140 rfl ?_
  refine j_sld (q := 142) h hs dL_law_141 rfl hf (fun hf => ?_)
  refine j_cVi (q := 145) (As := [.int _]) h rfl hf (fun _ hx => ct_X6_say _ _ _ hx) ml_XL_13 vw_X6_say rf_L_X6_say hn (Nat.le_of_ble_eq_true rfl) dL_law_142 rfl (fun _ _ hf => ?_)
  refine j_aload_n (q := 146) h dL_law_145 rfl rfl ?_
  refine j_aload_n (q := 147) h dL_law_146 rfl rfl ?_
  refine j_iload_n (q := 148) h dL_law_147 rfl rfl ?_
  refine j_iconst (q := 149) (1) h dL_law_148 ki_1 rfl ?_
  refine j_iadd (q := 150) h dL_law_149 rfl ?_
  refine j_sld (q := 151) h hs dL_law_150 rfl hf (fun hf => ?_)
  refine j_cVi (q := 154) (As := [.int _]) h rfl hf (fun _ hx => ct_X7_say _ _ _ hx) ml_XL_17 vw_X7_say rf_L_X7_say hn (Nat.le_of_ble_eq_true rfl) dL_law_151 rfl (fun _ _ hf => ?_)
  refine j_icmp_eq (q := 157) 612 h dL_law_154 (by decide) rfl hf (fun hf => ?_) (fun hf => ?_)
  · exact j_sub (lsub_s (lsub_s (lsub_s (lsub_s lsub_0)))) (w_L_612 h hk18 hf)
  · refine j_iconst (q := 158) (0) h dL_law_157 ki_0 rfl ?_
    exact j_lret h hs hn dL_law_158 hf h1
def f_L_c1 (K : KT) (P : PT) (xs : Nat → Int32) (Ls : Nat) (k18 : Nat → Nat → Nat → Int32 → VT → Option (Int32 × VT)) (l0 l1 l2 : Nat) (l3 : Int32) (V : VT) : Option (Int32 × VT) :=
  cV K l1 4 (f_X6_wipe K P l1 V) fun x7 V8 => cV K l2 5 (f_X7_wipe K P l2 V8) fun x9 V10 => if x7 = x9 then (f_L_612 k18 l0 l1 l2 l3 V10) else (some ((0 : Int32), V10))
set_option maxRecDepth 20000 in
theorem w_L_c1 {g : GT} {K : KT} {P : PT} {n sl l0 l1 l2 Ls : Nat} {xs : Nat → Int32} {res : Int32 × VT} (h : OK g RL code 4 Jvm.Pilot.@@N@@.ret) (hs : SC g l0 Ls xs) (hn : n ≤ 600000 ∧ sl ≤ 7302250) (h1 : res.1 = 1) {k18 : Nat → Nat → Nat → Int32 → VT → Option (Int32 × VT)} (hk18 : ∀ (l3 : Int32) (V : VT), k18 l0 l1 l2 l3 V = some res → J g room_1 (LZ g) 4 K P V n sl 18 [some (.ref l0), some (.ref l1), some (.ref l2), some (.int l3)] []) {l3 : Int32} {V : VT} (hf : f_L_c1 K P xs Ls k18 l0 l1 l2 l3 V = some res) : J g room_1 (LZ g) 4 K P V n sl 159 [some (.ref l0), some (.ref l1), some (.ref l2), some (.int l3)] [] := by
  rw [f_L_c1] at hf
  refine j_aload_n (q := 160) h dL_law_159 rfl rfl ?_
  refine j_cVi (q := 163) (As := []) h rfl hf (fun _ hx => ct_X6_wipe _ _ _ hx) ml_XL_18 vw_X6_wipe rf_L_X6_wipe hn (Nat.le_of_ble_eq_true rfl) dL_law_160 rfl (fun _ _ hf => ?_)
  refine j_aload_n (q := 164) h dL_law_163 rfl rfl ?_
  refine j_cVi (q := 167) (As := []) h rfl hf (fun _ hx => ct_X7_wipe _ _ _ hx) ml_XL_22 vw_X7_wipe rf_L_X7_wipe hn (Nat.le_of_ble_eq_true rfl) dL_law_164 rfl (fun _ _ hf => ?_)
  refine j_icmp_eq (q := 170) 612 h dL_law_167 (by decide) rfl hf (fun hf => ?_) (fun hf => ?_)
  · exact j_sub (lsub_s (lsub_s (lsub_s (lsub_s lsub_0)))) (w_L_612 h hk18 hf)
  · refine j_iconst (q := 171) (0) h dL_law_170 ki_0 rfl ?_
    exact j_lret h hs hn dL_law_171 hf h1
def f_L_c2 (K : KT) (P : PT) (xs : Nat → Int32) (Ls : Nat) (k18 : Nat → Nat → Nat → Int32 → VT → Option (Int32 × VT)) (l0 l1 l2 : Nat) (l3 : Int32) (V : VT) : Option (Int32 × VT) :=
  cV K l1 4 (f_X6_fault K P l1 V) fun x11 V12 => cV K l2 5 (f_X7_fault K P l2 V12) fun x13 V14 => if x11 = x13 then (f_L_612 k18 l0 l1 l2 l3 V14) else (some ((0 : Int32), V14))
set_option maxRecDepth 20000 in
theorem w_L_c2 {g : GT} {K : KT} {P : PT} {n sl l0 l1 l2 Ls : Nat} {xs : Nat → Int32} {res : Int32 × VT} (h : OK g RL code 4 Jvm.Pilot.@@N@@.ret) (hs : SC g l0 Ls xs) (hn : n ≤ 600000 ∧ sl ≤ 7302250) (h1 : res.1 = 1) {k18 : Nat → Nat → Nat → Int32 → VT → Option (Int32 × VT)} (hk18 : ∀ (l3 : Int32) (V : VT), k18 l0 l1 l2 l3 V = some res → J g room_1 (LZ g) 4 K P V n sl 18 [some (.ref l0), some (.ref l1), some (.ref l2), some (.int l3)] []) {l3 : Int32} {V : VT} (hf : f_L_c2 K P xs Ls k18 l0 l1 l2 l3 V = some res) : J g room_1 (LZ g) 4 K P V n sl 172 [some (.ref l0), some (.ref l1), some (.ref l2), some (.int l3)] [] := by
  rw [f_L_c2] at hf
  refine j_aload_n (q := 173) h dL_law_172 rfl rfl ?_
  refine j_cVi (q := 176) (As := []) h rfl hf (fun _ hx => ct_X6_fault _ _ _ hx) ml_XL_23 vw_X6_fault rf_L_X6_fault hn (Nat.le_of_ble_eq_true rfl) dL_law_173 rfl (fun _ _ hf => ?_)
  refine j_aload_n (q := 177) h dL_law_176 rfl rfl ?_
  refine j_cVi (q := 180) (As := []) h rfl hf (fun _ hx => ct_X7_fault _ _ _ hx) ml_XL_26 vw_X7_fault rf_L_X7_fault hn (Nat.le_of_ble_eq_true rfl) dL_law_177 rfl (fun _ _ hf => ?_)
  refine j_icmp_eq (q := 183) 612 h dL_law_180 (by decide) rfl hf (fun hf => ?_) (fun hf => ?_)
  · exact j_sub (lsub_s (lsub_s (lsub_s (lsub_s lsub_0)))) (w_L_612 h hk18 hf)
  · refine j_iconst (q := 184) (0) h dL_law_183 ki_0 rfl ?_
    exact j_lret h hs hn dL_law_184 hf h1
def f_L_c3 (K : KT) (P : PT) (xs : Nat → Int32) (Ls : Nat) (k18 : Nat → Nat → Nat → Int32 → VT → Option (Int32 × VT)) (l0 l1 l2 : Nat) (l3 : Int32) (V : VT) : Option (Int32 × VT) :=
  sX xs Ls (l3 + ((1 : Int32))) fun x15 => cV K l1 4 (f_X6_layer K P l1 x15 V) fun x16 V17 => sX xs Ls (l3 + ((1 : Int32))) fun x18 => cV K l2 5 (f_X7_layer K P l2 x18 V17) fun x19 V20 => if x16 = x19 then (f_L_612 k18 l0 l1 l2 l3 V20) else (some ((0 : Int32), V20))
set_option maxRecDepth 20000 in
theorem w_L_c3 {g : GT} {K : KT} {P : PT} {n sl l0 l1 l2 Ls : Nat} {xs : Nat → Int32} {res : Int32 × VT} (h : OK g RL code 4 Jvm.Pilot.@@N@@.ret) (hs : SC g l0 Ls xs) (hn : n ≤ 600000 ∧ sl ≤ 7302250) (h1 : res.1 = 1) {k18 : Nat → Nat → Nat → Int32 → VT → Option (Int32 × VT)} (hk18 : ∀ (l3 : Int32) (V : VT), k18 l0 l1 l2 l3 V = some res → J g room_1 (LZ g) 4 K P V n sl 18 [some (.ref l0), some (.ref l1), some (.ref l2), some (.int l3)] []) {l3 : Int32} {V : VT} (hf : f_L_c3 K P xs Ls k18 l0 l1 l2 l3 V = some res) : J g room_1 (LZ g) 4 K P V n sl 185 [some (.ref l0), some (.ref l1), some (.ref l2), some (.int l3)] [] := by
  rw [f_L_c3] at hf
  refine j_aload_n (q := 186) h dL_law_185 rfl rfl ?_
  refine j_aload_n (q := 187) h dL_law_186 rfl rfl ?_
  refine j_iload_n (q := 188) h dL_law_187 rfl rfl ?_
  refine j_iconst (q := 189) (1) h dL_law_188 ki_1 rfl ?_
  refine j_iadd (q := 190) h dL_law_189 rfl ?_
  refine j_sld (q := 191) h hs dL_law_190 rfl hf (fun hf => ?_)
  refine j_cVi (q := 194) (As := [.int _]) h rfl hf (fun _ hx => ct_X6_layer _ _ _ hx) ml_XL_27 vw_X6_layer rf_L_X6_layer hn (Nat.le_of_ble_eq_true rfl) dL_law_191 rfl (fun _ _ hf => ?_)
  refine j_aload_n (q := 195) h dL_law_194 rfl rfl ?_
  refine j_aload_n (q := 196) h dL_law_195 rfl rfl ?_
  refine j_iload_n (q := 197) h dL_law_196 rfl rfl ?_
  refine j_iconst (q := 198) (1) h dL_law_197 ki_1 rfl ?_
  refine j_iadd (q := 199) h dL_law_198 rfl ?_
  refine j_sld (q := 200) h hs dL_law_199 rfl hf (fun hf => ?_)
  refine j_cVi (q := 203) (As := [.int _]) h rfl hf (fun _ hx => ct_X7_layer _ _ _ hx) ml_XL_30 vw_X7_layer rf_L_X7_layer hn (Nat.le_of_ble_eq_true rfl) dL_law_200 rfl (fun _ _ hf => ?_)
  refine j_icmp_eq (q := 206) 612 h dL_law_203 (by decide) rfl hf (fun hf => ?_) (fun hf => ?_)
  · exact j_sub (lsub_s (lsub_s (lsub_s (lsub_s lsub_0)))) (w_L_612 h hk18 hf)
  · refine j_iconst (q := 207) (0) h dL_law_206 ki_0 rfl ?_
    exact j_lret h hs hn dL_law_207 hf h1
def f_L_c4 (K : KT) (P : PT) (xs : Nat → Int32) (Ls : Nat) (k18 : Nat → Nat → Nat → Int32 → VT → Option (Int32 × VT)) (l0 l1 l2 : Nat) (l3 : Int32) (V : VT) : Option (Int32 × VT) :=
  sX xs Ls (l3 + ((1 : Int32))) fun x21 => sX xs Ls (l3 + ((2 : Int32))) fun x22 => cV K l1 4 (f_X6_about K P l1 x21 x22 V) fun x23 V24 => sX xs Ls (l3 + ((1 : Int32))) fun x25 => sX xs Ls (l3 + ((2 : Int32))) fun x26 => cV K l2 5 (f_X7_about K P l2 x25 x26 V24) fun x27 V28 => if x23 = x27 then (f_L_612 k18 l0 l1 l2 l3 V28) else (some ((0 : Int32), V28))
set_option maxRecDepth 20000 in
theorem w_L_c4 {g : GT} {K : KT} {P : PT} {n sl l0 l1 l2 Ls : Nat} {xs : Nat → Int32} {res : Int32 × VT} (h : OK g RL code 4 Jvm.Pilot.@@N@@.ret) (hs : SC g l0 Ls xs) (hn : n ≤ 600000 ∧ sl ≤ 7302250) (h1 : res.1 = 1) {k18 : Nat → Nat → Nat → Int32 → VT → Option (Int32 × VT)} (hk18 : ∀ (l3 : Int32) (V : VT), k18 l0 l1 l2 l3 V = some res → J g room_1 (LZ g) 4 K P V n sl 18 [some (.ref l0), some (.ref l1), some (.ref l2), some (.int l3)] []) {l3 : Int32} {V : VT} (hf : f_L_c4 K P xs Ls k18 l0 l1 l2 l3 V = some res) : J g room_1 (LZ g) 4 K P V n sl 208 [some (.ref l0), some (.ref l1), some (.ref l2), some (.int l3)] [] := by
  rw [f_L_c4] at hf
  refine j_aload_n (q := 209) h dL_law_208 rfl rfl ?_
  refine j_aload_n (q := 210) h dL_law_209 rfl rfl ?_
  refine j_iload_n (q := 211) h dL_law_210 rfl rfl ?_
  refine j_iconst (q := 212) (1) h dL_law_211 ki_1 rfl ?_
  refine j_iadd (q := 213) h dL_law_212 rfl ?_
  refine j_sld (q := 214) h hs dL_law_213 rfl hf (fun hf => ?_)
  refine j_aload_n (q := 215) h dL_law_214 rfl rfl ?_
  refine j_iload_n (q := 216) h dL_law_215 rfl rfl ?_
  refine j_iconst (q := 217) (2) h dL_law_216 ki_2 rfl ?_
  refine j_iadd (q := 218) h dL_law_217 rfl ?_
  refine j_sld (q := 219) h hs dL_law_218 rfl hf (fun hf => ?_)
  refine j_cVi (q := 222) (As := [.int _, .int _]) h rfl hf (fun _ hx => ct_X6_about _ _ _ hx) ml_XL_31 vw_X6_about rf_L_X6_about hn (Nat.le_of_ble_eq_true rfl) dL_law_219 rfl (fun _ _ hf => ?_)
  refine j_aload_n (q := 223) h dL_law_222 rfl rfl ?_
  refine j_aload_n (q := 224) h dL_law_223 rfl rfl ?_
  refine j_iload_n (q := 225) h dL_law_224 rfl rfl ?_
  refine j_iconst (q := 226) (1) h dL_law_225 ki_1 rfl ?_
  refine j_iadd (q := 227) h dL_law_226 rfl ?_
  refine j_sld (q := 228) h hs dL_law_227 rfl hf (fun hf => ?_)
  refine j_aload_n (q := 229) h dL_law_228 rfl rfl ?_
  refine j_iload_n (q := 230) h dL_law_229 rfl rfl ?_
  refine j_iconst (q := 231) (2) h dL_law_230 ki_2 rfl ?_
  refine j_iadd (q := 232) h dL_law_231 rfl ?_
  refine j_sld (q := 233) h hs dL_law_232 rfl hf (fun hf => ?_)
  refine j_cVi (q := 236) (As := [.int _, .int _]) h rfl hf (fun _ hx => ct_X7_about _ _ _ hx) ml_XL_35 vw_X7_about rf_L_X7_about hn (Nat.le_of_ble_eq_true rfl) dL_law_233 rfl (fun _ _ hf => ?_)
  refine j_icmp_eq (q := 239) 612 h dL_law_236 (by decide) rfl hf (fun hf => ?_) (fun hf => ?_)
  · exact j_sub (lsub_s (lsub_s (lsub_s (lsub_s lsub_0)))) (w_L_612 h hk18 hf)
  · refine j_iconst (q := 240) (0) h dL_law_239 ki_0 rfl ?_
    exact j_lret h hs hn dL_law_240 hf h1
def f_L_c5 (K : KT) (P : PT) (xs : Nat → Int32) (Ls : Nat) (k18 : Nat → Nat → Nat → Int32 → VT → Option (Int32 × VT)) (l0 l1 l2 : Nat) (l3 : Int32) (V : VT) : Option (Int32 × VT) :=
  sX xs Ls (l3 + ((1 : Int32))) fun x29 => cV K l1 4 (f_X6_chain K P l1 x29 V) fun x30 V31 => sX xs Ls (l3 + ((1 : Int32))) fun x32 => cV K l2 5 (f_X7_chain K P l2 x32 V31) fun x33 V34 => if x30 = x33 then (f_L_612 k18 l0 l1 l2 l3 V34) else (some ((0 : Int32), V34))
set_option maxRecDepth 20000 in
theorem w_L_c5 {g : GT} {K : KT} {P : PT} {n sl l0 l1 l2 Ls : Nat} {xs : Nat → Int32} {res : Int32 × VT} (h : OK g RL code 4 Jvm.Pilot.@@N@@.ret) (hs : SC g l0 Ls xs) (hn : n ≤ 600000 ∧ sl ≤ 7302250) (h1 : res.1 = 1) {k18 : Nat → Nat → Nat → Int32 → VT → Option (Int32 × VT)} (hk18 : ∀ (l3 : Int32) (V : VT), k18 l0 l1 l2 l3 V = some res → J g room_1 (LZ g) 4 K P V n sl 18 [some (.ref l0), some (.ref l1), some (.ref l2), some (.int l3)] []) {l3 : Int32} {V : VT} (hf : f_L_c5 K P xs Ls k18 l0 l1 l2 l3 V = some res) : J g room_1 (LZ g) 4 K P V n sl 241 [some (.ref l0), some (.ref l1), some (.ref l2), some (.int l3)] [] := by
  rw [f_L_c5] at hf
  refine j_aload_n (q := 242) h dL_law_241 rfl rfl ?_
  refine j_aload_n (q := 243) h dL_law_242 rfl rfl ?_
  refine j_iload_n (q := 244) h dL_law_243 rfl rfl ?_
  refine j_iconst (q := 245) (1) h dL_law_244 ki_1 rfl ?_
  refine j_iadd (q := 246) h dL_law_245 rfl ?_
  refine j_sld (q := 247) h hs dL_law_246 rfl hf (fun hf => ?_)
  refine j_cVi (q := 250) (As := [.int _]) h rfl hf (fun _ hx => ct_X6_chain _ _ _ hx) ml_XL_36 vw_X6_chain rf_L_X6_chain hn (Nat.le_of_ble_eq_true rfl) dL_law_247 rfl (fun _ _ hf => ?_)
  refine j_aload_n (q := 251) h dL_law_250 rfl rfl ?_
  refine j_aload_n (q := 252) h dL_law_251 rfl rfl ?_
  refine j_iload_n (q := 253) h dL_law_252 rfl rfl ?_
  refine j_iconst (q := 254) (1) h dL_law_253 ki_1 rfl ?_
  refine j_iadd (q := 255) h dL_law_254 rfl ?_
  refine j_sld (q := 256) h hs dL_law_255 rfl hf (fun hf => ?_)
  refine j_cVi (q := 259) (As := [.int _]) h rfl hf (fun _ hx => ct_X7_chain _ _ _ hx) ml_XL_39 vw_X7_chain rf_L_X7_chain hn (Nat.le_of_ble_eq_true rfl) dL_law_256 rfl (fun _ _ hf => ?_)
  refine j_icmp_eq (q := 262) 612 h dL_law_259 (by decide) rfl hf (fun hf => ?_) (fun hf => ?_)
  · exact j_sub (lsub_s (lsub_s (lsub_s (lsub_s lsub_0)))) (w_L_612 h hk18 hf)
  · refine j_iconst (q := 263) (0) h dL_law_262 ki_0 rfl ?_
    exact j_lret h hs hn dL_law_263 hf h1
def f_L_c6 (K : KT) (P : PT) (xs : Nat → Int32) (Ls : Nat) (k18 : Nat → Nat → Nat → Int32 → VT → Option (Int32 × VT)) (l0 l1 l2 : Nat) (l3 : Int32) (V : VT) : Option (Int32 × VT) :=
  cV K l1 4 (f_X6_unchain K P l1 V) fun x35 V36 => cV K l2 5 (f_X7_unchain K P l2 V36) fun x37 V38 => if x35 = x37 then (f_L_612 k18 l0 l1 l2 l3 V38) else (some ((0 : Int32), V38))
set_option maxRecDepth 20000 in
theorem w_L_c6 {g : GT} {K : KT} {P : PT} {n sl l0 l1 l2 Ls : Nat} {xs : Nat → Int32} {res : Int32 × VT} (h : OK g RL code 4 Jvm.Pilot.@@N@@.ret) (hs : SC g l0 Ls xs) (hn : n ≤ 600000 ∧ sl ≤ 7302250) (h1 : res.1 = 1) {k18 : Nat → Nat → Nat → Int32 → VT → Option (Int32 × VT)} (hk18 : ∀ (l3 : Int32) (V : VT), k18 l0 l1 l2 l3 V = some res → J g room_1 (LZ g) 4 K P V n sl 18 [some (.ref l0), some (.ref l1), some (.ref l2), some (.int l3)] []) {l3 : Int32} {V : VT} (hf : f_L_c6 K P xs Ls k18 l0 l1 l2 l3 V = some res) : J g room_1 (LZ g) 4 K P V n sl 264 [some (.ref l0), some (.ref l1), some (.ref l2), some (.int l3)] [] := by
  rw [f_L_c6] at hf
  refine j_aload_n (q := 265) h dL_law_264 rfl rfl ?_
  refine j_cVi (q := 268) (As := []) h rfl hf (fun _ hx => ct_X6_unchain _ _ _ hx) ml_XL_40 vw_X6_unchain rf_L_X6_unchain hn (Nat.le_of_ble_eq_true rfl) dL_law_265 rfl (fun _ _ hf => ?_)
  refine j_aload_n (q := 269) h dL_law_268 rfl rfl ?_
  refine j_cVi (q := 272) (As := []) h rfl hf (fun _ hx => ct_X7_unchain _ _ _ hx) ml_XL_43 vw_X7_unchain rf_L_X7_unchain hn (Nat.le_of_ble_eq_true rfl) dL_law_269 rfl (fun _ _ hf => ?_)
  refine j_icmp_eq (q := 275) 612 h dL_law_272 (by decide) rfl hf (fun hf => ?_) (fun hf => ?_)
  · exact j_sub (lsub_s (lsub_s (lsub_s (lsub_s lsub_0)))) (w_L_612 h hk18 hf)
  · refine j_iconst (q := 276) (0) h dL_law_275 ki_0 rfl ?_
    exact j_lret h hs hn dL_law_276 hf h1
def f_L_c7 (K : KT) (P : PT) (xs : Nat → Int32) (Ls : Nat) (k18 : Nat → Nat → Nat → Int32 → VT → Option (Int32 × VT)) (l0 l1 l2 : Nat) (l3 : Int32) (V : VT) : Option (Int32 × VT) :=
  cV K l1 4 (f_X6_text K P l1 V) fun x39 V40 => cV K l2 5 (f_X7_text K P l2 V40) fun x41 V42 => if x39 = x41 then (f_L_612 k18 l0 l1 l2 l3 V42) else (some ((0 : Int32), V42))
set_option maxRecDepth 20000 in
theorem w_L_c7 {g : GT} {K : KT} {P : PT} {n sl l0 l1 l2 Ls : Nat} {xs : Nat → Int32} {res : Int32 × VT} (h : OK g RL code 4 Jvm.Pilot.@@N@@.ret) (hs : SC g l0 Ls xs) (hn : n ≤ 600000 ∧ sl ≤ 7302250) (h1 : res.1 = 1) {k18 : Nat → Nat → Nat → Int32 → VT → Option (Int32 × VT)} (hk18 : ∀ (l3 : Int32) (V : VT), k18 l0 l1 l2 l3 V = some res → J g room_1 (LZ g) 4 K P V n sl 18 [some (.ref l0), some (.ref l1), some (.ref l2), some (.int l3)] []) {l3 : Int32} {V : VT} (hf : f_L_c7 K P xs Ls k18 l0 l1 l2 l3 V = some res) : J g room_1 (LZ g) 4 K P V n sl 277 [some (.ref l0), some (.ref l1), some (.ref l2), some (.int l3)] [] := by
  rw [f_L_c7] at hf
  refine j_aload_n (q := 278) h dL_law_277 rfl rfl ?_
  refine j_cVi (q := 281) (As := []) h rfl hf (fun _ hx => ct_X6_text _ _ _ hx) ml_XL_44 vw_X6_text rf_L_X6_text hn (Nat.le_of_ble_eq_true rfl) dL_law_278 rfl (fun _ _ hf => ?_)
  refine j_aload_n (q := 282) h dL_law_281 rfl rfl ?_
  refine j_cVi (q := 285) (As := []) h rfl hf (fun _ hx => ct_X7_text _ _ _ hx) ml_XL_47 vw_X7_text rf_L_X7_text hn (Nat.le_of_ble_eq_true rfl) dL_law_282 rfl (fun _ _ hf => ?_)
  refine j_icmp_eq (q := 288) 612 h dL_law_285 (by decide) rfl hf (fun hf => ?_) (fun hf => ?_)
  · exact j_sub (lsub_s (lsub_s (lsub_s (lsub_s lsub_0)))) (w_L_612 h hk18 hf)
  · refine j_iconst (q := 289) (0) h dL_law_288 ki_0 rfl ?_
    exact j_lret h hs hn dL_law_289 hf h1
def f_L_c8 (K : KT) (P : PT) (xs : Nat → Int32) (Ls : Nat) (k18 : Nat → Nat → Nat → Int32 → VT → Option (Int32 × VT)) (l0 l1 l2 : Nat) (l3 : Int32) (V : VT) : Option (Int32 × VT) :=
  sX xs Ls (l3 + ((1 : Int32))) fun x43 => sX xs Ls (l3 + ((2 : Int32))) fun x44 => cV K l1 4 (f_X6_behind K P l1 x43 x44 V) fun x45 V46 => sX xs Ls (l3 + ((1 : Int32))) fun x47 => sX xs Ls (l3 + ((2 : Int32))) fun x48 => cV K l2 5 (f_X7_behind K P l2 x47 x48 V46) fun x49 V50 => if x45 = x49 then (f_L_612 k18 l0 l1 l2 l3 V50) else (some ((0 : Int32), V50))
set_option maxRecDepth 20000 in
theorem w_L_c8 {g : GT} {K : KT} {P : PT} {n sl l0 l1 l2 Ls : Nat} {xs : Nat → Int32} {res : Int32 × VT} (h : OK g RL code 4 Jvm.Pilot.@@N@@.ret) (hs : SC g l0 Ls xs) (hn : n ≤ 600000 ∧ sl ≤ 7302250) (h1 : res.1 = 1) {k18 : Nat → Nat → Nat → Int32 → VT → Option (Int32 × VT)} (hk18 : ∀ (l3 : Int32) (V : VT), k18 l0 l1 l2 l3 V = some res → J g room_1 (LZ g) 4 K P V n sl 18 [some (.ref l0), some (.ref l1), some (.ref l2), some (.int l3)] []) {l3 : Int32} {V : VT} (hf : f_L_c8 K P xs Ls k18 l0 l1 l2 l3 V = some res) : J g room_1 (LZ g) 4 K P V n sl 290 [some (.ref l0), some (.ref l1), some (.ref l2), some (.int l3)] [] := by
  rw [f_L_c8] at hf
  refine j_aload_n (q := 291) h dL_law_290 rfl rfl ?_
  refine j_aload_n (q := 292) h dL_law_291 rfl rfl ?_
  refine j_iload_n (q := 293) h dL_law_292 rfl rfl ?_
  refine j_iconst (q := 294) (1) h dL_law_293 ki_1 rfl ?_
  refine j_iadd (q := 295) h dL_law_294 rfl ?_
  refine j_sld (q := 296) h hs dL_law_295 rfl hf (fun hf => ?_)
  refine j_aload_n (q := 297) h dL_law_296 rfl rfl ?_
  refine j_iload_n (q := 298) h dL_law_297 rfl rfl ?_
  refine j_iconst (q := 299) (2) h dL_law_298 ki_2 rfl ?_
  refine j_iadd (q := 300) h dL_law_299 rfl ?_
  refine j_sld (q := 301) h hs dL_law_300 rfl hf (fun hf => ?_)
  refine j_cVi (q := 304) (As := [.int _, .int _]) h rfl hf (fun _ hx => ct_X6_behind _ _ _ hx) ml_XL_48 vw_X6_behind rf_L_X6_behind hn (Nat.le_of_ble_eq_true rfl) dL_law_301 rfl (fun _ _ hf => ?_)
  refine j_aload_n (q := 305) h dL_law_304 rfl rfl ?_
  refine j_aload_n (q := 306) h dL_law_305 rfl rfl ?_
  refine j_iload_n (q := 307) h dL_law_306 rfl rfl ?_
  refine j_iconst (q := 308) (1) h dL_law_307 ki_1 rfl ?_
  refine j_iadd (q := 309) h dL_law_308 rfl ?_
  refine j_sld (q := 310) h hs dL_law_309 rfl hf (fun hf => ?_)
  refine j_aload_n (q := 311) h dL_law_310 rfl rfl ?_
  refine j_iload_n (q := 312) h dL_law_311 rfl rfl ?_
  refine j_iconst (q := 313) (2) h dL_law_312 ki_2 rfl ?_
  refine j_iadd (q := 314) h dL_law_313 rfl ?_
  refine j_sld (q := 315) h hs dL_law_314 rfl hf (fun hf => ?_)
  refine j_cVi (q := 318) (As := [.int _, .int _]) h rfl hf (fun _ hx => ct_X7_behind _ _ _ hx) ml_XL_51 vw_X7_behind rf_L_X7_behind hn (Nat.le_of_ble_eq_true rfl) dL_law_315 rfl (fun _ _ hf => ?_)
  refine j_icmp_eq (q := 321) 612 h dL_law_318 (by decide) rfl hf (fun hf => ?_) (fun hf => ?_)
  · exact j_sub (lsub_s (lsub_s (lsub_s (lsub_s lsub_0)))) (w_L_612 h hk18 hf)
  · refine j_iconst (q := 322) (0) h dL_law_321 ki_0 rfl ?_
    exact j_lret h hs hn dL_law_322 hf h1
def f_L_c9 (K : KT) (P : PT) (xs : Nat → Int32) (Ls : Nat) (k18 : Nat → Nat → Nat → Int32 → VT → Option (Int32 × VT)) (l0 l1 l2 : Nat) (l3 : Int32) (V : VT) : Option (Int32 × VT) :=
  cV K l1 4 (f_X6_barred K P l1 V) fun x51 V52 => cV K l2 5 (f_X7_barred K P l2 V52) fun x53 V54 => if x51 = x53 then (f_L_612 k18 l0 l1 l2 l3 V54) else (some ((0 : Int32), V54))
set_option maxRecDepth 20000 in
theorem w_L_c9 {g : GT} {K : KT} {P : PT} {n sl l0 l1 l2 Ls : Nat} {xs : Nat → Int32} {res : Int32 × VT} (h : OK g RL code 4 Jvm.Pilot.@@N@@.ret) (hs : SC g l0 Ls xs) (hn : n ≤ 600000 ∧ sl ≤ 7302250) (h1 : res.1 = 1) {k18 : Nat → Nat → Nat → Int32 → VT → Option (Int32 × VT)} (hk18 : ∀ (l3 : Int32) (V : VT), k18 l0 l1 l2 l3 V = some res → J g room_1 (LZ g) 4 K P V n sl 18 [some (.ref l0), some (.ref l1), some (.ref l2), some (.int l3)] []) {l3 : Int32} {V : VT} (hf : f_L_c9 K P xs Ls k18 l0 l1 l2 l3 V = some res) : J g room_1 (LZ g) 4 K P V n sl 323 [some (.ref l0), some (.ref l1), some (.ref l2), some (.int l3)] [] := by
  rw [f_L_c9] at hf
  refine j_aload_n (q := 324) h dL_law_323 rfl rfl ?_
  refine j_cVi (q := 327) (As := []) h rfl hf (fun _ hx => ct_X6_barred _ _ _ hx) ml_XL_52 vw_X6_barred rf_L_X6_barred hn (Nat.le_of_ble_eq_true rfl) dL_law_324 rfl (fun _ _ hf => ?_)
  refine j_aload_n (q := 328) h dL_law_327 rfl rfl ?_
  refine j_cVi (q := 331) (As := []) h rfl hf (fun _ hx => ct_X7_barred _ _ _ hx) ml_XL_55 vw_X7_barred rf_L_X7_barred hn (Nat.le_of_ble_eq_true rfl) dL_law_328 rfl (fun _ _ hf => ?_)
  refine j_icmp_eq (q := 334) 612 h dL_law_331 (by decide) rfl hf (fun hf => ?_) (fun hf => ?_)
  · exact j_sub (lsub_s (lsub_s (lsub_s (lsub_s lsub_0)))) (w_L_612 h hk18 hf)
  · refine j_iconst (q := 335) (0) h dL_law_334 ki_0 rfl ?_
    exact j_lret h hs hn dL_law_335 hf h1
def f_L_c10 (K : KT) (P : PT) (xs : Nat → Int32) (Ls : Nat) (k18 : Nat → Nat → Nat → Int32 → VT → Option (Int32 × VT)) (l0 l1 l2 : Nat) (l3 : Int32) (V : VT) : Option (Int32 × VT) :=
  sX xs Ls (l3 + ((1 : Int32))) fun x55 => cV K l1 4 (f_X6_grows K P l1 x55 V) fun x56 V57 => sX xs Ls (l3 + ((1 : Int32))) fun x58 => cV K l2 5 (f_X7_grows K P l2 x58 V57) fun x59 V60 => if x56 = x59 then (f_L_612 k18 l0 l1 l2 l3 V60) else (some ((0 : Int32), V60))
set_option maxRecDepth 20000 in
theorem w_L_c10 {g : GT} {K : KT} {P : PT} {n sl l0 l1 l2 Ls : Nat} {xs : Nat → Int32} {res : Int32 × VT} (h : OK g RL code 4 Jvm.Pilot.@@N@@.ret) (hs : SC g l0 Ls xs) (hn : n ≤ 600000 ∧ sl ≤ 7302250) (h1 : res.1 = 1) {k18 : Nat → Nat → Nat → Int32 → VT → Option (Int32 × VT)} (hk18 : ∀ (l3 : Int32) (V : VT), k18 l0 l1 l2 l3 V = some res → J g room_1 (LZ g) 4 K P V n sl 18 [some (.ref l0), some (.ref l1), some (.ref l2), some (.int l3)] []) {l3 : Int32} {V : VT} (hf : f_L_c10 K P xs Ls k18 l0 l1 l2 l3 V = some res) : J g room_1 (LZ g) 4 K P V n sl 336 [some (.ref l0), some (.ref l1), some (.ref l2), some (.int l3)] [] := by
  rw [f_L_c10] at hf
  refine j_aload_n (q := 337) h dL_law_336 rfl rfl ?_
  refine j_aload_n (q := 338) h dL_law_337 rfl rfl ?_
  refine j_iload_n (q := 339) h dL_law_338 rfl rfl ?_
  refine j_iconst (q := 340) (1) h dL_law_339 ki_1 rfl ?_
  refine j_iadd (q := 341) h dL_law_340 rfl ?_
  refine j_sld (q := 342) h hs dL_law_341 rfl hf (fun hf => ?_)
  refine j_cVi (q := 345) (As := [.int _]) h rfl hf (fun _ hx => ct_X6_grows _ _ _ hx) ml_XL_56 vw_X6_grows rf_L_X6_grows hn (Nat.le_of_ble_eq_true rfl) dL_law_342 rfl (fun _ _ hf => ?_)
  refine j_aload_n (q := 346) h dL_law_345 rfl rfl ?_
  refine j_aload_n (q := 347) h dL_law_346 rfl rfl ?_
  refine j_iload_n (q := 348) h dL_law_347 rfl rfl ?_
  refine j_iconst (q := 349) (1) h dL_law_348 ki_1 rfl ?_
  refine j_iadd (q := 350) h dL_law_349 rfl ?_
  refine j_sld (q := 351) h hs dL_law_350 rfl hf (fun hf => ?_)
  refine j_cVi (q := 354) (As := [.int _]) h rfl hf (fun _ hx => ct_X7_grows _ _ _ hx) ml_XL_59 vw_X7_grows rf_L_X7_grows hn (Nat.le_of_ble_eq_true rfl) dL_law_351 rfl (fun _ _ hf => ?_)
  refine j_icmp_eq (q := 357) 612 h dL_law_354 (by decide) rfl hf (fun hf => ?_) (fun hf => ?_)
  · exact j_sub (lsub_s (lsub_s (lsub_s (lsub_s lsub_0)))) (w_L_612 h hk18 hf)
  · refine j_iconst (q := 358) (0) h dL_law_357 ki_0 rfl ?_
    exact j_lret h hs hn dL_law_358 hf h1
def f_L_c11 (K : KT) (P : PT) (xs : Nat → Int32) (Ls : Nat) (k18 : Nat → Nat → Nat → Int32 → VT → Option (Int32 × VT)) (l0 l1 l2 : Nat) (l3 : Int32) (V : VT) : Option (Int32 × VT) :=
  sX xs Ls (l3 + ((1 : Int32))) fun x61 => cV K l1 4 (f_X6_safe K P l1 x61 V) fun x62 V63 => sX xs Ls (l3 + ((1 : Int32))) fun x64 => cV K l2 5 (f_X7_safe K P l2 x64 V63) fun x65 V66 => if x62 = x65 then (f_L_612 k18 l0 l1 l2 l3 V66) else (some ((0 : Int32), V66))
set_option maxRecDepth 20000 in
theorem w_L_c11 {g : GT} {K : KT} {P : PT} {n sl l0 l1 l2 Ls : Nat} {xs : Nat → Int32} {res : Int32 × VT} (h : OK g RL code 4 Jvm.Pilot.@@N@@.ret) (hs : SC g l0 Ls xs) (hn : n ≤ 600000 ∧ sl ≤ 7302250) (h1 : res.1 = 1) {k18 : Nat → Nat → Nat → Int32 → VT → Option (Int32 × VT)} (hk18 : ∀ (l3 : Int32) (V : VT), k18 l0 l1 l2 l3 V = some res → J g room_1 (LZ g) 4 K P V n sl 18 [some (.ref l0), some (.ref l1), some (.ref l2), some (.int l3)] []) {l3 : Int32} {V : VT} (hf : f_L_c11 K P xs Ls k18 l0 l1 l2 l3 V = some res) : J g room_1 (LZ g) 4 K P V n sl 359 [some (.ref l0), some (.ref l1), some (.ref l2), some (.int l3)] [] := by
  rw [f_L_c11] at hf
  refine j_aload_n (q := 360) h dL_law_359 rfl rfl ?_
  refine j_aload_n (q := 361) h dL_law_360 rfl rfl ?_
  refine j_iload_n (q := 362) h dL_law_361 rfl rfl ?_
  refine j_iconst (q := 363) (1) h dL_law_362 ki_1 rfl ?_
  refine j_iadd (q := 364) h dL_law_363 rfl ?_
  refine j_sld (q := 365) h hs dL_law_364 rfl hf (fun hf => ?_)
  refine j_cVi (q := 368) (As := [.int _]) h rfl hf (fun _ hx => ct_X6_safe _ _ _ hx) ml_XL_60 vw_X6_safe rf_L_X6_safe hn (Nat.le_of_ble_eq_true rfl) dL_law_365 rfl (fun _ _ hf => ?_)
  refine j_aload_n (q := 369) h dL_law_368 rfl rfl ?_
  refine j_aload_n (q := 370) h dL_law_369 rfl rfl ?_
  refine j_iload_n (q := 371) h dL_law_370 rfl rfl ?_
  refine j_iconst (q := 372) (1) h dL_law_371 ki_1 rfl ?_
  refine j_iadd (q := 373) h dL_law_372 rfl ?_
  refine j_sld (q := 374) h hs dL_law_373 rfl hf (fun hf => ?_)
  refine j_cVi (q := 377) (As := [.int _]) h rfl hf (fun _ hx => ct_X7_safe _ _ _ hx) ml_XL_63 vw_X7_safe rf_L_X7_safe hn (Nat.le_of_ble_eq_true rfl) dL_law_374 rfl (fun _ _ hf => ?_)
  refine j_icmp_eq (q := 380) 612 h dL_law_377 (by decide) rfl hf (fun hf => ?_) (fun hf => ?_)
  · exact j_sub (lsub_s (lsub_s (lsub_s (lsub_s lsub_0)))) (w_L_612 h hk18 hf)
  · refine j_iconst (q := 381) (0) h dL_law_380 ki_0 rfl ?_
    exact j_lret h hs hn dL_law_381 hf h1
def f_L_c12 (K : KT) (P : PT) (xs : Nat → Int32) (Ls : Nat) (k18 : Nat → Nat → Nat → Int32 → VT → Option (Int32 × VT)) (l0 l1 l2 : Nat) (l3 : Int32) (V : VT) : Option (Int32 × VT) :=
  cV K l1 4 (f_X6_dearest K P l1 V) fun x67 V68 => cV K l2 5 (f_X7_dearest K P l2 V68) fun x69 V70 => if x67 = x69 then (f_L_612 k18 l0 l1 l2 l3 V70) else (some ((0 : Int32), V70))
set_option maxRecDepth 20000 in
theorem w_L_c12 {g : GT} {K : KT} {P : PT} {n sl l0 l1 l2 Ls : Nat} {xs : Nat → Int32} {res : Int32 × VT} (h : OK g RL code 4 Jvm.Pilot.@@N@@.ret) (hs : SC g l0 Ls xs) (hn : n ≤ 600000 ∧ sl ≤ 7302250) (h1 : res.1 = 1) {k18 : Nat → Nat → Nat → Int32 → VT → Option (Int32 × VT)} (hk18 : ∀ (l3 : Int32) (V : VT), k18 l0 l1 l2 l3 V = some res → J g room_1 (LZ g) 4 K P V n sl 18 [some (.ref l0), some (.ref l1), some (.ref l2), some (.int l3)] []) {l3 : Int32} {V : VT} (hf : f_L_c12 K P xs Ls k18 l0 l1 l2 l3 V = some res) : J g room_1 (LZ g) 4 K P V n sl 382 [some (.ref l0), some (.ref l1), some (.ref l2), some (.int l3)] [] := by
  rw [f_L_c12] at hf
  refine j_aload_n (q := 383) h dL_law_382 rfl rfl ?_
  refine j_cVi (q := 386) (As := []) h rfl hf (fun _ hx => ct_X6_dearest _ _ _ hx) ml_XL_64 vw_X6_dearest rf_L_X6_dearest hn (Nat.le_of_ble_eq_true rfl) dL_law_383 rfl (fun _ _ hf => ?_)
  refine j_aload_n (q := 387) h dL_law_386 rfl rfl ?_
  refine j_cVi (q := 390) (As := []) h rfl hf (fun _ hx => ct_X7_dearest _ _ _ hx) ml_XL_67 vw_X7_dearest rf_L_X7_dearest hn (Nat.le_of_ble_eq_true rfl) dL_law_387 rfl (fun _ _ hf => ?_)
  refine j_icmp_eq (q := 393) 612 h dL_law_390 (by decide) rfl hf (fun hf => ?_) (fun hf => ?_)
  · exact j_sub (lsub_s (lsub_s (lsub_s (lsub_s lsub_0)))) (w_L_612 h hk18 hf)
  · refine j_iconst (q := 394) (0) h dL_law_393 ki_0 rfl ?_
    exact j_lret h hs hn dL_law_394 hf h1
def f_L_c13 (K : KT) (P : PT) (xs : Nat → Int32) (Ls : Nat) (k18 : Nat → Nat → Nat → Int32 → VT → Option (Int32 × VT)) (l0 l1 l2 : Nat) (l3 : Int32) (V : VT) : Option (Int32 × VT) :=
  sX xs Ls (l3 + ((1 : Int32))) fun x71 => cV K l1 4 (f_X6_read K P l1 x71 V) fun x72 V73 => sX xs Ls (l3 + ((1 : Int32))) fun x74 => cV K l2 5 (f_X7_read K P l2 x74 V73) fun x75 V76 => if x72 = x75 then (f_L_612 k18 l0 l1 l2 l3 V76) else (some ((0 : Int32), V76))
set_option maxRecDepth 20000 in
theorem w_L_c13 {g : GT} {K : KT} {P : PT} {n sl l0 l1 l2 Ls : Nat} {xs : Nat → Int32} {res : Int32 × VT} (h : OK g RL code 4 Jvm.Pilot.@@N@@.ret) (hs : SC g l0 Ls xs) (hn : n ≤ 600000 ∧ sl ≤ 7302250) (h1 : res.1 = 1) {k18 : Nat → Nat → Nat → Int32 → VT → Option (Int32 × VT)} (hk18 : ∀ (l3 : Int32) (V : VT), k18 l0 l1 l2 l3 V = some res → J g room_1 (LZ g) 4 K P V n sl 18 [some (.ref l0), some (.ref l1), some (.ref l2), some (.int l3)] []) {l3 : Int32} {V : VT} (hf : f_L_c13 K P xs Ls k18 l0 l1 l2 l3 V = some res) : J g room_1 (LZ g) 4 K P V n sl 395 [some (.ref l0), some (.ref l1), some (.ref l2), some (.int l3)] [] := by
  rw [f_L_c13] at hf
  refine j_aload_n (q := 396) h dL_law_395 rfl rfl ?_
  refine j_aload_n (q := 397) h dL_law_396 rfl rfl ?_
  refine j_iload_n (q := 398) h dL_law_397 rfl rfl ?_
  refine j_iconst (q := 399) (1) h dL_law_398 ki_1 rfl ?_
  refine j_iadd (q := 400) h dL_law_399 rfl ?_
  refine j_sld (q := 401) h hs dL_law_400 rfl hf (fun hf => ?_)
  refine j_cVi (q := 404) (As := [.int _]) h rfl hf (fun _ hx => ct_X6_read _ _ _ hx) ml_XL_68 vw_X6_read rf_L_X6_read hn (Nat.le_of_ble_eq_true rfl) dL_law_401 rfl (fun _ _ hf => ?_)
  refine j_aload_n (q := 405) h dL_law_404 rfl rfl ?_
  refine j_aload_n (q := 406) h dL_law_405 rfl rfl ?_
  refine j_iload_n (q := 407) h dL_law_406 rfl rfl ?_
  refine j_iconst (q := 408) (1) h dL_law_407 ki_1 rfl ?_
  refine j_iadd (q := 409) h dL_law_408 rfl ?_
  refine j_sld (q := 410) h hs dL_law_409 rfl hf (fun hf => ?_)
  refine j_cVi (q := 413) (As := [.int _]) h rfl hf (fun _ hx => ct_X7_read _ _ _ hx) ml_XL_71 vw_X7_read rf_L_X7_read hn (Nat.le_of_ble_eq_true rfl) dL_law_410 rfl (fun _ _ hf => ?_)
  refine j_icmp_eq (q := 416) 612 h dL_law_413 (by decide) rfl hf (fun hf => ?_) (fun hf => ?_)
  · exact j_sub (lsub_s (lsub_s (lsub_s (lsub_s lsub_0)))) (w_L_612 h hk18 hf)
  · refine j_iconst (q := 417) (0) h dL_law_416 ki_0 rfl ?_
    exact j_lret h hs hn dL_law_417 hf h1
def f_L_c14 (K : KT) (P : PT) (xs : Nat → Int32) (Ls : Nat) (k18 : Nat → Nat → Nat → Int32 → VT → Option (Int32 × VT)) (l0 l1 l2 : Nat) (l3 : Int32) (V : VT) : Option (Int32 × VT) :=
  sX xs Ls (l3 + ((1 : Int32))) fun x77 => cV K l1 4 (f_X6_spills K P l1 x77 V) fun x78 V79 => sX xs Ls (l3 + ((1 : Int32))) fun x80 => cV K l2 5 (f_X7_spills K P l2 x80 V79) fun x81 V82 => if x78 = x81 then (f_L_612 k18 l0 l1 l2 l3 V82) else (some ((0 : Int32), V82))
set_option maxRecDepth 20000 in
theorem w_L_c14 {g : GT} {K : KT} {P : PT} {n sl l0 l1 l2 Ls : Nat} {xs : Nat → Int32} {res : Int32 × VT} (h : OK g RL code 4 Jvm.Pilot.@@N@@.ret) (hs : SC g l0 Ls xs) (hn : n ≤ 600000 ∧ sl ≤ 7302250) (h1 : res.1 = 1) {k18 : Nat → Nat → Nat → Int32 → VT → Option (Int32 × VT)} (hk18 : ∀ (l3 : Int32) (V : VT), k18 l0 l1 l2 l3 V = some res → J g room_1 (LZ g) 4 K P V n sl 18 [some (.ref l0), some (.ref l1), some (.ref l2), some (.int l3)] []) {l3 : Int32} {V : VT} (hf : f_L_c14 K P xs Ls k18 l0 l1 l2 l3 V = some res) : J g room_1 (LZ g) 4 K P V n sl 418 [some (.ref l0), some (.ref l1), some (.ref l2), some (.int l3)] [] := by
  rw [f_L_c14] at hf
  refine j_aload_n (q := 419) h dL_law_418 rfl rfl ?_
  refine j_aload_n (q := 420) h dL_law_419 rfl rfl ?_
  refine j_iload_n (q := 421) h dL_law_420 rfl rfl ?_
  refine j_iconst (q := 422) (1) h dL_law_421 ki_1 rfl ?_
  refine j_iadd (q := 423) h dL_law_422 rfl ?_
  refine j_sld (q := 424) h hs dL_law_423 rfl hf (fun hf => ?_)
  refine j_cVi (q := 427) (As := [.int _]) h rfl hf (fun _ hx => ct_X6_spills _ _ _ hx) ml_XL_72 vw_X6_spills rf_L_X6_spills hn (Nat.le_of_ble_eq_true rfl) dL_law_424 rfl (fun _ _ hf => ?_)
  refine j_aload_n (q := 428) h dL_law_427 rfl rfl ?_
  refine j_aload_n (q := 429) h dL_law_428 rfl rfl ?_
  refine j_iload_n (q := 430) h dL_law_429 rfl rfl ?_
  refine j_iconst (q := 431) (1) h dL_law_430 ki_1 rfl ?_
  refine j_iadd (q := 432) h dL_law_431 rfl ?_
  refine j_sld (q := 433) h hs dL_law_432 rfl hf (fun hf => ?_)
  refine j_cVi (q := 436) (As := [.int _]) h rfl hf (fun _ hx => ct_X7_spills _ _ _ hx) ml_XL_75 vw_X7_spills rf_L_X7_spills hn (Nat.le_of_ble_eq_true rfl) dL_law_433 rfl (fun _ _ hf => ?_)
  refine j_icmp_eq (q := 439) 612 h dL_law_436 (by decide) rfl hf (fun hf => ?_) (fun hf => ?_)
  · exact j_sub (lsub_s (lsub_s (lsub_s (lsub_s lsub_0)))) (w_L_612 h hk18 hf)
  · refine j_iconst (q := 440) (0) h dL_law_439 ki_0 rfl ?_
    exact j_lret h hs hn dL_law_440 hf h1
def f_L_c15 (K : KT) (P : PT) (xs : Nat → Int32) (Ls : Nat) (k18 : Nat → Nat → Nat → Int32 → VT → Option (Int32 × VT)) (l0 l1 l2 : Nat) (l3 : Int32) (V : VT) : Option (Int32 × VT) :=
  sX xs Ls (l3 + ((1 : Int32))) fun x83 => sX xs Ls (l3 + ((2 : Int32))) fun x84 => cV K l1 4 (f_X6_spill K P l1 x83 x84 V) fun x85 V86 => sX xs Ls (l3 + ((1 : Int32))) fun x87 => sX xs Ls (l3 + ((2 : Int32))) fun x88 => cV K l2 5 (f_X7_spill K P l2 x87 x88 V86) fun x89 V90 => if x85 = x89 then (f_L_612 k18 l0 l1 l2 l3 V90) else (some ((0 : Int32), V90))
set_option maxRecDepth 20000 in
theorem w_L_c15 {g : GT} {K : KT} {P : PT} {n sl l0 l1 l2 Ls : Nat} {xs : Nat → Int32} {res : Int32 × VT} (h : OK g RL code 4 Jvm.Pilot.@@N@@.ret) (hs : SC g l0 Ls xs) (hn : n ≤ 600000 ∧ sl ≤ 7302250) (h1 : res.1 = 1) {k18 : Nat → Nat → Nat → Int32 → VT → Option (Int32 × VT)} (hk18 : ∀ (l3 : Int32) (V : VT), k18 l0 l1 l2 l3 V = some res → J g room_1 (LZ g) 4 K P V n sl 18 [some (.ref l0), some (.ref l1), some (.ref l2), some (.int l3)] []) {l3 : Int32} {V : VT} (hf : f_L_c15 K P xs Ls k18 l0 l1 l2 l3 V = some res) : J g room_1 (LZ g) 4 K P V n sl 441 [some (.ref l0), some (.ref l1), some (.ref l2), some (.int l3)] [] := by
  rw [f_L_c15] at hf
  refine j_aload_n (q := 442) h dL_law_441 rfl rfl ?_
  refine j_aload_n (q := 443) h dL_law_442 rfl rfl ?_
  refine j_iload_n (q := 444) h dL_law_443 rfl rfl ?_
  refine j_iconst (q := 445) (1) h dL_law_444 ki_1 rfl ?_
  refine j_iadd (q := 446) h dL_law_445 rfl ?_
  refine j_sld (q := 447) h hs dL_law_446 rfl hf (fun hf => ?_)
  refine j_aload_n (q := 448) h dL_law_447 rfl rfl ?_
  refine j_iload_n (q := 449) h dL_law_448 rfl rfl ?_
  refine j_iconst (q := 450) (2) h dL_law_449 ki_2 rfl ?_
  refine j_iadd (q := 451) h dL_law_450 rfl ?_
  refine j_sld (q := 452) h hs dL_law_451 rfl hf (fun hf => ?_)
  refine j_cVi (q := 455) (As := [.int _, .int _]) h rfl hf (fun _ hx => ct_X6_spill _ _ _ hx) ml_XL_76 vw_X6_spill rf_L_X6_spill hn (Nat.le_of_ble_eq_true rfl) dL_law_452 rfl (fun _ _ hf => ?_)
  refine j_aload_n (q := 456) h dL_law_455 rfl rfl ?_
  refine j_aload_n (q := 457) h dL_law_456 rfl rfl ?_
  refine j_iload_n (q := 458) h dL_law_457 rfl rfl ?_
  refine j_iconst (q := 459) (1) h dL_law_458 ki_1 rfl ?_
  refine j_iadd (q := 460) h dL_law_459 rfl ?_
  refine j_sld (q := 461) h hs dL_law_460 rfl hf (fun hf => ?_)
  refine j_aload_n (q := 462) h dL_law_461 rfl rfl ?_
  refine j_iload_n (q := 463) h dL_law_462 rfl rfl ?_
  refine j_iconst (q := 464) (2) h dL_law_463 ki_2 rfl ?_
  refine j_iadd (q := 465) h dL_law_464 rfl ?_
  refine j_sld (q := 466) h hs dL_law_465 rfl hf (fun hf => ?_)
  refine j_cVi (q := 469) (As := [.int _, .int _]) h rfl hf (fun _ hx => ct_X7_spill _ _ _ hx) ml_XL_79 vw_X7_spill rf_L_X7_spill hn (Nat.le_of_ble_eq_true rfl) dL_law_466 rfl (fun _ _ hf => ?_)
  refine j_icmp_eq (q := 472) 612 h dL_law_469 (by decide) rfl hf (fun hf => ?_) (fun hf => ?_)
  · exact j_sub (lsub_s (lsub_s (lsub_s (lsub_s lsub_0)))) (w_L_612 h hk18 hf)
  · refine j_iconst (q := 473) (0) h dL_law_472 ki_0 rfl ?_
    exact j_lret h hs hn dL_law_473 hf h1
def f_L_c16 (K : KT) (P : PT) (xs : Nat → Int32) (Ls : Nat) (k18 : Nat → Nat → Nat → Int32 → VT → Option (Int32 × VT)) (l0 l1 l2 : Nat) (l3 : Int32) (V : VT) : Option (Int32 × VT) :=
  sX xs Ls (l3 + ((1 : Int32))) fun x91 => cV K l1 4 (f_X6_twice K P l1 x91 V) fun x92 V93 => sX xs Ls (l3 + ((1 : Int32))) fun x94 => cV K l2 5 (f_X7_twice K P l2 x94 V93) fun x95 V96 => if x92 = x95 then (f_L_612 k18 l0 l1 l2 l3 V96) else (some ((0 : Int32), V96))
set_option maxRecDepth 20000 in
theorem w_L_c16 {g : GT} {K : KT} {P : PT} {n sl l0 l1 l2 Ls : Nat} {xs : Nat → Int32} {res : Int32 × VT} (h : OK g RL code 4 Jvm.Pilot.@@N@@.ret) (hs : SC g l0 Ls xs) (hn : n ≤ 600000 ∧ sl ≤ 7302250) (h1 : res.1 = 1) {k18 : Nat → Nat → Nat → Int32 → VT → Option (Int32 × VT)} (hk18 : ∀ (l3 : Int32) (V : VT), k18 l0 l1 l2 l3 V = some res → J g room_1 (LZ g) 4 K P V n sl 18 [some (.ref l0), some (.ref l1), some (.ref l2), some (.int l3)] []) {l3 : Int32} {V : VT} (hf : f_L_c16 K P xs Ls k18 l0 l1 l2 l3 V = some res) : J g room_1 (LZ g) 4 K P V n sl 474 [some (.ref l0), some (.ref l1), some (.ref l2), some (.int l3)] [] := by
  rw [f_L_c16] at hf
  refine j_aload_n (q := 475) h dL_law_474 rfl rfl ?_
  refine j_aload_n (q := 476) h dL_law_475 rfl rfl ?_
  refine j_iload_n (q := 477) h dL_law_476 rfl rfl ?_
  refine j_iconst (q := 478) (1) h dL_law_477 ki_1 rfl ?_
  refine j_iadd (q := 479) h dL_law_478 rfl ?_
  refine j_sld (q := 480) h hs dL_law_479 rfl hf (fun hf => ?_)
  refine j_cVi (q := 483) (As := [.int _]) h rfl hf (fun _ hx => ct_X6_twice _ _ _ hx) ml_XL_80 vw_X6_twice rf_L_X6_twice hn (Nat.le_of_ble_eq_true rfl) dL_law_480 rfl (fun _ _ hf => ?_)
  refine j_aload_n (q := 484) h dL_law_483 rfl rfl ?_
  refine j_aload_n (q := 485) h dL_law_484 rfl rfl ?_
  refine j_iload_n (q := 486) h dL_law_485 rfl rfl ?_
  refine j_iconst (q := 487) (1) h dL_law_486 ki_1 rfl ?_
  refine j_iadd (q := 488) h dL_law_487 rfl ?_
  refine j_sld (q := 489) h hs dL_law_488 rfl hf (fun hf => ?_)
  refine j_cVi (q := 492) (As := [.int _]) h rfl hf (fun _ hx => ct_X7_twice _ _ _ hx) ml_XL_83 vw_X7_twice rf_L_X7_twice hn (Nat.le_of_ble_eq_true rfl) dL_law_489 rfl (fun _ _ hf => ?_)
  refine j_icmp_eq (q := 495) 612 h dL_law_492 (by decide) rfl hf (fun hf => ?_) (fun hf => ?_)
  · exact j_sub (lsub_s (lsub_s (lsub_s (lsub_s lsub_0)))) (w_L_612 h hk18 hf)
  · refine j_iconst (q := 496) (0) h dL_law_495 ki_0 rfl ?_
    exact j_lret h hs hn dL_law_496 hf h1
def f_L_c17 (K : KT) (P : PT) (xs : Nat → Int32) (Ls : Nat) (k18 : Nat → Nat → Nat → Int32 → VT → Option (Int32 × VT)) (l0 l1 l2 : Nat) (l3 : Int32) (V : VT) : Option (Int32 × VT) :=
  sX xs Ls (l3 + ((1 : Int32))) fun x97 => cV K l1 4 (f_X6_rows K P l1 x97 V) fun x98 V99 => sX xs Ls (l3 + ((1 : Int32))) fun x100 => cV K l2 5 (f_X7_rows K P l2 x100 V99) fun x101 V102 => if x98 = x101 then (f_L_612 k18 l0 l1 l2 l3 V102) else (some ((0 : Int32), V102))
set_option maxRecDepth 20000 in
theorem w_L_c17 {g : GT} {K : KT} {P : PT} {n sl l0 l1 l2 Ls : Nat} {xs : Nat → Int32} {res : Int32 × VT} (h : OK g RL code 4 Jvm.Pilot.@@N@@.ret) (hs : SC g l0 Ls xs) (hn : n ≤ 600000 ∧ sl ≤ 7302250) (h1 : res.1 = 1) {k18 : Nat → Nat → Nat → Int32 → VT → Option (Int32 × VT)} (hk18 : ∀ (l3 : Int32) (V : VT), k18 l0 l1 l2 l3 V = some res → J g room_1 (LZ g) 4 K P V n sl 18 [some (.ref l0), some (.ref l1), some (.ref l2), some (.int l3)] []) {l3 : Int32} {V : VT} (hf : f_L_c17 K P xs Ls k18 l0 l1 l2 l3 V = some res) : J g room_1 (LZ g) 4 K P V n sl 497 [some (.ref l0), some (.ref l1), some (.ref l2), some (.int l3)] [] := by
  rw [f_L_c17] at hf
  refine j_aload_n (q := 498) h dL_law_497 rfl rfl ?_
  refine j_aload_n (q := 499) h dL_law_498 rfl rfl ?_
  refine j_iload_n (q := 500) h dL_law_499 rfl rfl ?_
  refine j_iconst (q := 501) (1) h dL_law_500 ki_1 rfl ?_
  refine j_iadd (q := 502) h dL_law_501 rfl ?_
  refine j_sld (q := 503) h hs dL_law_502 rfl hf (fun hf => ?_)
  refine j_cVi (q := 506) (As := [.int _]) h rfl hf (fun _ hx => ct_X6_rows _ _ _ hx) ml_XL_84 vw_X6_rows rf_L_X6_rows hn (Nat.le_of_ble_eq_true rfl) dL_law_503 rfl (fun _ _ hf => ?_)
  refine j_aload_n (q := 507) h dL_law_506 rfl rfl ?_
  refine j_aload_n (q := 508) h dL_law_507 rfl rfl ?_
  refine j_iload_n (q := 509) h dL_law_508 rfl rfl ?_
  refine j_iconst (q := 510) (1) h dL_law_509 ki_1 rfl ?_
  refine j_iadd (q := 511) h dL_law_510 rfl ?_
  refine j_sld (q := 512) h hs dL_law_511 rfl hf (fun hf => ?_)
  refine j_cVi (q := 515) (As := [.int _]) h rfl hf (fun _ hx => ct_X7_rows _ _ _ hx) ml_XL_87 vw_X7_rows rf_L_X7_rows hn (Nat.le_of_ble_eq_true rfl) dL_law_512 rfl (fun _ _ hf => ?_)
  refine j_icmp_eq (q := 518) 612 h dL_law_515 (by decide) rfl hf (fun hf => ?_) (fun hf => ?_)
  · exact j_sub (lsub_s (lsub_s (lsub_s (lsub_s lsub_0)))) (w_L_612 h hk18 hf)
  · refine j_iconst (q := 519) (0) h dL_law_518 ki_0 rfl ?_
    exact j_lret h hs hn dL_law_519 hf h1
def f_L_c18 (K : KT) (P : PT) (xs : Nat → Int32) (Ls : Nat) (k18 : Nat → Nat → Nat → Int32 → VT → Option (Int32 × VT)) (l0 l1 l2 : Nat) (l3 : Int32) (V : VT) : Option (Int32 × VT) :=
  sX xs Ls (l3 + ((1 : Int32))) fun x103 => cV K l1 4 (f_X6_order K P l1 x103 V) fun x104 V105 => sX xs Ls (l3 + ((1 : Int32))) fun x106 => cV K l2 5 (f_X7_order K P l2 x106 V105) fun x107 V108 => if x104 = x107 then (f_L_612 k18 l0 l1 l2 l3 V108) else (some ((0 : Int32), V108))
set_option maxRecDepth 20000 in
theorem w_L_c18 {g : GT} {K : KT} {P : PT} {n sl l0 l1 l2 Ls : Nat} {xs : Nat → Int32} {res : Int32 × VT} (h : OK g RL code 4 Jvm.Pilot.@@N@@.ret) (hs : SC g l0 Ls xs) (hn : n ≤ 600000 ∧ sl ≤ 7302250) (h1 : res.1 = 1) {k18 : Nat → Nat → Nat → Int32 → VT → Option (Int32 × VT)} (hk18 : ∀ (l3 : Int32) (V : VT), k18 l0 l1 l2 l3 V = some res → J g room_1 (LZ g) 4 K P V n sl 18 [some (.ref l0), some (.ref l1), some (.ref l2), some (.int l3)] []) {l3 : Int32} {V : VT} (hf : f_L_c18 K P xs Ls k18 l0 l1 l2 l3 V = some res) : J g room_1 (LZ g) 4 K P V n sl 520 [some (.ref l0), some (.ref l1), some (.ref l2), some (.int l3)] [] := by
  rw [f_L_c18] at hf
  refine j_aload_n (q := 521) h dL_law_520 rfl rfl ?_
  refine j_aload_n (q := 522) h dL_law_521 rfl rfl ?_
  refine j_iload_n (q := 523) h dL_law_522 rfl rfl ?_
  refine j_iconst (q := 524) (1) h dL_law_523 ki_1 rfl ?_
  refine j_iadd (q := 525) h dL_law_524 rfl ?_
  refine j_sld (q := 526) h hs dL_law_525 rfl hf (fun hf => ?_)
  refine j_cVi (q := 529) (As := [.int _]) h rfl hf (fun _ hx => ct_X6_order _ _ _ hx) ml_XL_88 vw_X6_order rf_L_X6_order hn (Nat.le_of_ble_eq_true rfl) dL_law_526 rfl (fun _ _ hf => ?_)
  refine j_aload_n (q := 530) h dL_law_529 rfl rfl ?_
  refine j_aload_n (q := 531) h dL_law_530 rfl rfl ?_
  refine j_iload_n (q := 532) h dL_law_531 rfl rfl ?_
  refine j_iconst (q := 533) (1) h dL_law_532 ki_1 rfl ?_
  refine j_iadd (q := 534) h dL_law_533 rfl ?_
  refine j_sld (q := 535) h hs dL_law_534 rfl hf (fun hf => ?_)
  refine j_cVi (q := 538) (As := [.int _]) h rfl hf (fun _ hx => ct_X7_order _ _ _ hx) ml_XL_91 vw_X7_order rf_L_X7_order hn (Nat.le_of_ble_eq_true rfl) dL_law_535 rfl (fun _ _ hf => ?_)
  refine j_icmp_eq (q := 541) 612 h dL_law_538 (by decide) rfl hf (fun hf => ?_) (fun hf => ?_)
  · exact j_sub (lsub_s (lsub_s (lsub_s (lsub_s lsub_0)))) (w_L_612 h hk18 hf)
  · refine j_iconst (q := 542) (0) h dL_law_541 ki_0 rfl ?_
    exact j_lret h hs hn dL_law_542 hf h1
def f_L_c19 (K : KT) (P : PT) (xs : Nat → Int32) (Ls : Nat) (k18 : Nat → Nat → Nat → Int32 → VT → Option (Int32 × VT)) (l0 l1 l2 : Nat) (l3 : Int32) (V : VT) : Option (Int32 × VT) :=
  sX xs Ls (l3 + ((1 : Int32))) fun x109 => cV K l1 4 (f_X6_image K P l1 x109 V) fun x110 V111 => sX xs Ls (l3 + ((1 : Int32))) fun x112 => cV K l2 5 (f_X7_image K P l2 x112 V111) fun x113 V114 => if x110 = x113 then (f_L_612 k18 l0 l1 l2 l3 V114) else (some ((0 : Int32), V114))
set_option maxRecDepth 20000 in
theorem w_L_c19 {g : GT} {K : KT} {P : PT} {n sl l0 l1 l2 Ls : Nat} {xs : Nat → Int32} {res : Int32 × VT} (h : OK g RL code 4 Jvm.Pilot.@@N@@.ret) (hs : SC g l0 Ls xs) (hn : n ≤ 600000 ∧ sl ≤ 7302250) (h1 : res.1 = 1) {k18 : Nat → Nat → Nat → Int32 → VT → Option (Int32 × VT)} (hk18 : ∀ (l3 : Int32) (V : VT), k18 l0 l1 l2 l3 V = some res → J g room_1 (LZ g) 4 K P V n sl 18 [some (.ref l0), some (.ref l1), some (.ref l2), some (.int l3)] []) {l3 : Int32} {V : VT} (hf : f_L_c19 K P xs Ls k18 l0 l1 l2 l3 V = some res) : J g room_1 (LZ g) 4 K P V n sl 543 [some (.ref l0), some (.ref l1), some (.ref l2), some (.int l3)] [] := by
  rw [f_L_c19] at hf
  refine j_aload_n (q := 544) h dL_law_543 rfl rfl ?_
  refine j_aload_n (q := 545) h dL_law_544 rfl rfl ?_
  refine j_iload_n (q := 546) h dL_law_545 rfl rfl ?_
  refine j_iconst (q := 547) (1) h dL_law_546 ki_1 rfl ?_
  refine j_iadd (q := 548) h dL_law_547 rfl ?_
  refine j_sld (q := 549) h hs dL_law_548 rfl hf (fun hf => ?_)
  refine j_cVi (q := 552) (As := [.int _]) h rfl hf (fun _ hx => ct_X6_image _ _ _ hx) ml_XL_92 vw_X6_image rf_L_X6_image hn (Nat.le_of_ble_eq_true rfl) dL_law_549 rfl (fun _ _ hf => ?_)
  refine j_aload_n (q := 553) h dL_law_552 rfl rfl ?_
  refine j_aload_n (q := 554) h dL_law_553 rfl rfl ?_
  refine j_iload_n (q := 555) h dL_law_554 rfl rfl ?_
  refine j_iconst (q := 556) (1) h dL_law_555 ki_1 rfl ?_
  refine j_iadd (q := 557) h dL_law_556 rfl ?_
  refine j_sld (q := 558) h hs dL_law_557 rfl hf (fun hf => ?_)
  refine j_cVi (q := 561) (As := [.int _]) h rfl hf (fun _ hx => ct_X7_image _ _ _ hx) ml_XL_95 vw_X7_image rf_L_X7_image hn (Nat.le_of_ble_eq_true rfl) dL_law_558 rfl (fun _ _ hf => ?_)
  refine j_icmp_eq (q := 564) 612 h dL_law_561 (by decide) rfl hf (fun hf => ?_) (fun hf => ?_)
  · exact j_sub (lsub_s (lsub_s (lsub_s (lsub_s lsub_0)))) (w_L_612 h hk18 hf)
  · refine j_iconst (q := 565) (0) h dL_law_564 ki_0 rfl ?_
    exact j_lret h hs hn dL_law_565 hf h1
def f_L_c20 (K : KT) (P : PT) (xs : Nat → Int32) (Ls : Nat) (k18 : Nat → Nat → Nat → Int32 → VT → Option (Int32 × VT)) (l0 l1 l2 : Nat) (l3 : Int32) (V : VT) : Option (Int32 × VT) :=
  sX xs Ls (l3 + ((1 : Int32))) fun x115 => cV K l1 4 (f_X6_restore K P l1 x115 V) fun x116 V117 => sX xs Ls (l3 + ((1 : Int32))) fun x118 => cV K l2 5 (f_X7_restore K P l2 x118 V117) fun x119 V120 => if x116 = x119 then (f_L_612 k18 l0 l1 l2 l3 V120) else (some ((0 : Int32), V120))
set_option maxRecDepth 20000 in
theorem w_L_c20 {g : GT} {K : KT} {P : PT} {n sl l0 l1 l2 Ls : Nat} {xs : Nat → Int32} {res : Int32 × VT} (h : OK g RL code 4 Jvm.Pilot.@@N@@.ret) (hs : SC g l0 Ls xs) (hn : n ≤ 600000 ∧ sl ≤ 7302250) (h1 : res.1 = 1) {k18 : Nat → Nat → Nat → Int32 → VT → Option (Int32 × VT)} (hk18 : ∀ (l3 : Int32) (V : VT), k18 l0 l1 l2 l3 V = some res → J g room_1 (LZ g) 4 K P V n sl 18 [some (.ref l0), some (.ref l1), some (.ref l2), some (.int l3)] []) {l3 : Int32} {V : VT} (hf : f_L_c20 K P xs Ls k18 l0 l1 l2 l3 V = some res) : J g room_1 (LZ g) 4 K P V n sl 566 [some (.ref l0), some (.ref l1), some (.ref l2), some (.int l3)] [] := by
  rw [f_L_c20] at hf
  refine j_aload_n (q := 567) h dL_law_566 rfl rfl ?_
  refine j_aload_n (q := 568) h dL_law_567 rfl rfl ?_
  refine j_iload_n (q := 569) h dL_law_568 rfl rfl ?_
  refine j_iconst (q := 570) (1) h dL_law_569 ki_1 rfl ?_
  refine j_iadd (q := 571) h dL_law_570 rfl ?_
  refine j_sld (q := 572) h hs dL_law_571 rfl hf (fun hf => ?_)
  refine j_cVi (q := 575) (As := [.int _]) h rfl hf (fun _ hx => ct_X6_restore _ _ _ hx) ml_XL_96 vw_X6_restore rf_L_X6_restore hn (Nat.le_of_ble_eq_true rfl) dL_law_572 rfl (fun _ _ hf => ?_)
  refine j_aload_n (q := 576) h dL_law_575 rfl rfl ?_
  refine j_aload_n (q := 577) h dL_law_576 rfl rfl ?_
  refine j_iload_n (q := 578) h dL_law_577 rfl rfl ?_
  refine j_iconst (q := 579) (1) h dL_law_578 ki_1 rfl ?_
  refine j_iadd (q := 580) h dL_law_579 rfl ?_
  refine j_sld (q := 581) h hs dL_law_580 rfl hf (fun hf => ?_)
  refine j_cVi (q := 584) (As := [.int _]) h rfl hf (fun _ hx => ct_X7_restore _ _ _ hx) ml_XL_99 vw_X7_restore rf_L_X7_restore hn (Nat.le_of_ble_eq_true rfl) dL_law_581 rfl (fun _ _ hf => ?_)
  refine j_icmp_eq (q := 587) 612 h dL_law_584 (by decide) rfl hf (fun hf => ?_) (fun hf => ?_)
  · exact j_sub (lsub_s (lsub_s (lsub_s (lsub_s lsub_0)))) (w_L_612 h hk18 hf)
  · refine j_iconst (q := 588) (0) h dL_law_587 ki_0 rfl ?_
    exact j_lret h hs hn dL_law_588 hf h1
def f_L_c21 (K : KT) (P : PT) (xs : Nat → Int32) (Ls : Nat) (k18 : Nat → Nat → Nat → Int32 → VT → Option (Int32 × VT)) (l0 l1 l2 : Nat) (l3 : Int32) (V : VT) : Option (Int32 × VT) :=
  sX xs Ls (l3 + ((1 : Int32))) fun x121 => cV K l1 4 (f_X6_told K P l1 x121 V) fun x122 V123 => sX xs Ls (l3 + ((1 : Int32))) fun x124 => cV K l2 5 (f_X7_told K P l2 x124 V123) fun x125 V126 => if x122 = x125 then (f_L_612 k18 l0 l1 l2 l3 V126) else (some ((0 : Int32), V126))
set_option maxRecDepth 20000 in
theorem w_L_c21 {g : GT} {K : KT} {P : PT} {n sl l0 l1 l2 Ls : Nat} {xs : Nat → Int32} {res : Int32 × VT} (h : OK g RL code 4 Jvm.Pilot.@@N@@.ret) (hs : SC g l0 Ls xs) (hn : n ≤ 600000 ∧ sl ≤ 7302250) (h1 : res.1 = 1) {k18 : Nat → Nat → Nat → Int32 → VT → Option (Int32 × VT)} (hk18 : ∀ (l3 : Int32) (V : VT), k18 l0 l1 l2 l3 V = some res → J g room_1 (LZ g) 4 K P V n sl 18 [some (.ref l0), some (.ref l1), some (.ref l2), some (.int l3)] []) {l3 : Int32} {V : VT} (hf : f_L_c21 K P xs Ls k18 l0 l1 l2 l3 V = some res) : J g room_1 (LZ g) 4 K P V n sl 589 [some (.ref l0), some (.ref l1), some (.ref l2), some (.int l3)] [] := by
  rw [f_L_c21] at hf
  refine j_aload_n (q := 590) h dL_law_589 rfl rfl ?_
  refine j_aload_n (q := 591) h dL_law_590 rfl rfl ?_
  refine j_iload_n (q := 592) h dL_law_591 rfl rfl ?_
  refine j_iconst (q := 593) (1) h dL_law_592 ki_1 rfl ?_
  refine j_iadd (q := 594) h dL_law_593 rfl ?_
  refine j_sld (q := 595) h hs dL_law_594 rfl hf (fun hf => ?_)
  refine j_cVi (q := 598) (As := [.int _]) h rfl hf (fun _ hx => ct_X6_told _ _ _ hx) ml_XL_100 vw_X6_told rf_L_X6_told hn (Nat.le_of_ble_eq_true rfl) dL_law_595 rfl (fun _ _ hf => ?_)
  refine j_aload_n (q := 599) h dL_law_598 rfl rfl ?_
  refine j_aload_n (q := 600) h dL_law_599 rfl rfl ?_
  refine j_iload_n (q := 601) h dL_law_600 rfl rfl ?_
  refine j_iconst (q := 602) (1) h dL_law_601 ki_1 rfl ?_
  refine j_iadd (q := 603) h dL_law_602 rfl ?_
  refine j_sld (q := 604) h hs dL_law_603 rfl hf (fun hf => ?_)
  refine j_cVi (q := 607) (As := [.int _]) h rfl hf (fun _ hx => ct_X7_told _ _ _ hx) ml_XL_103 vw_X7_told rf_L_X7_told hn (Nat.le_of_ble_eq_true rfl) dL_law_604 rfl (fun _ _ hf => ?_)
  refine j_icmp_eq (q := 610) 612 h dL_law_607 (by decide) rfl hf (fun hf => ?_) (fun hf => ?_)
  · exact j_sub (lsub_s (lsub_s (lsub_s (lsub_s lsub_0)))) (w_L_612 h hk18 hf)
  · refine j_iconst (q := 611) (0) h dL_law_610 ki_0 rfl ?_
    exact j_lret h hs hn dL_law_611 hf h1
def f_L_body (K : KT) (P : PT) (xs : Nat → Int32) (Ls : Nat) (k18 : Nat → Nat → Nat → Int32 → VT → Option (Int32 × VT)) (l0 l1 l2 : Nat) (l3 : Int32) (V : VT) : Option (Int32 × VT) :=
  if nI Ls - (3 : Int32) < l3 then some ((1 : Int32), V) else (sX xs Ls l3 fun x => if (x &&& (31 : Int32)) = 0 then (f_L_c0 K P xs Ls k18 l0 l1 l2 l3 V) else if (x &&& (31 : Int32)) = 1 then (f_L_c1 K P xs Ls k18 l0 l1 l2 l3 V) else if (x &&& (31 : Int32)) = 2 then (f_L_c2 K P xs Ls k18 l0 l1 l2 l3 V) else if (x &&& (31 : Int32)) = 3 then (f_L_c3 K P xs Ls k18 l0 l1 l2 l3 V) else if (x &&& (31 : Int32)) = 4 then (f_L_c4 K P xs Ls k18 l0 l1 l2 l3 V) else if (x &&& (31 : Int32)) = 5 then (f_L_c5 K P xs Ls k18 l0 l1 l2 l3 V) else if (x &&& (31 : Int32)) = 6 then (f_L_c6 K P xs Ls k18 l0 l1 l2 l3 V) else if (x &&& (31 : Int32)) = 7 then (f_L_c7 K P xs Ls k18 l0 l1 l2 l3 V) else if (x &&& (31 : Int32)) = 8 then (f_L_c8 K P xs Ls k18 l0 l1 l2 l3 V) else if (x &&& (31 : Int32)) = 9 then (f_L_c9 K P xs Ls k18 l0 l1 l2 l3 V) else if (x &&& (31 : Int32)) = 10 then (f_L_c10 K P xs Ls k18 l0 l1 l2 l3 V) else if (x &&& (31 : Int32)) = 11 then (f_L_c11 K P xs Ls k18 l0 l1 l2 l3 V) else if (x &&& (31 : Int32)) = 12 then (f_L_c12 K P xs Ls k18 l0 l1 l2 l3 V) else if (x &&& (31 : Int32)) = 13 then (f_L_c13 K P xs Ls k18 l0 l1 l2 l3 V) else if (x &&& (31 : Int32)) = 14 then (f_L_c14 K P xs Ls k18 l0 l1 l2 l3 V) else if (x &&& (31 : Int32)) = 15 then (f_L_c15 K P xs Ls k18 l0 l1 l2 l3 V) else if (x &&& (31 : Int32)) = 16 then (f_L_c16 K P xs Ls k18 l0 l1 l2 l3 V) else if (x &&& (31 : Int32)) = 17 then (f_L_c17 K P xs Ls k18 l0 l1 l2 l3 V) else if (x &&& (31 : Int32)) = 18 then (f_L_c18 K P xs Ls k18 l0 l1 l2 l3 V) else if (x &&& (31 : Int32)) = 19 then (f_L_c19 K P xs Ls k18 l0 l1 l2 l3 V) else if (x &&& (31 : Int32)) = 20 then (f_L_c20 K P xs Ls k18 l0 l1 l2 l3 V) else if (x &&& (31 : Int32)) = 21 then (f_L_c21 K P xs Ls k18 l0 l1 l2 l3 V) else f_L_612 k18 l0 l1 l2 l3 V)
set_option maxRecDepth 20000 in
set_option maxHeartbeats 4000000 in
theorem w_L_body {g : GT} {K : KT} {P : PT} {n sl l0 l1 l2 Ls : Nat} {xs : Nat → Int32} {res : Int32 × VT} (h : OK g RL code 4 Jvm.Pilot.@@N@@.ret) (hs : SC g l0 Ls xs) (hn : n ≤ 600000 ∧ sl ≤ 7302250) (h1 : res.1 = 1) {k18 : Nat → Nat → Nat → Int32 → VT → Option (Int32 × VT)} (hk18 : ∀ (l3 : Int32) (V : VT), k18 l0 l1 l2 l3 V = some res → J g room_1 (LZ g) 4 K P V n sl 18 [some (.ref l0), some (.ref l1), some (.ref l2), some (.int l3)] []) {l3 : Int32} {V : VT} (hf : f_L_body K P xs Ls k18 l0 l1 l2 l3 V = some res) : J g room_1 (LZ g) 4 K P V n sl 18 [some (.ref l0), some (.ref l1), some (.ref l2), some (.int l3)] [] := by
  rw [f_L_body] at hf
  refine j_iload_n (q := 19) h dL_law_18 rfl rfl ?_
  refine j_aload_n (q := 20) h dL_law_19 rfl rfl ?_
  refine j_slen (q := 21) h hs dL_law_20 rfl ?_
  refine j_iconst (q := 22) (3) h dL_law_21 ki_3 rfl ?_
  refine j_isub (q := 23) h dL_law_22 rfl ?_
  refine j_icmp_gt (q := 26) 618 h dL_law_23 (by decide) rfl hf (fun hf => ?_) (fun hf => ?_)
  · refine j_iconst (q := 619) (1) h dL_law_618 ki_1 rfl ?_
    exact j_lret h hs hn dL_law_619 hf h1
  refine j_aload_n (q := 27) h dL_law_26 rfl rfl ?_
  refine j_iload_n (q := 28) h dL_law_27 rfl rfl ?_
  refine j_sld (q := 29) h hs dL_law_28 rfl hf (fun hf => ?_)
  refine j_bipush (q := 31) (31) h dL_law_29 kb_31 rfl ?_
  refine j_iand (q := 32) h dL_law_31 rfl ?_
  refine j_case hf (fun e0 hf => ?_) (fun e0 hf => ?_)
  · refine j_tsIn (c := 0) 136 h e0 dL_law_32 (by decide) (by decide) rfl (by decide) ?_
    exact w_L_c0 h hs hn h1 hk18 hf
  refine j_case hf (fun e1 hf => ?_) (fun e1 hf => ?_)
  · refine j_tsIn (c := 1) 159 h e1 dL_law_32 (by decide) (by decide) rfl (by decide) ?_
    exact w_L_c1 h hs hn h1 hk18 hf
  refine j_case hf (fun e2 hf => ?_) (fun e2 hf => ?_)
  · refine j_tsIn (c := 2) 172 h e2 dL_law_32 (by decide) (by decide) rfl (by decide) ?_
    exact w_L_c2 h hs hn h1 hk18 hf
  refine j_case hf (fun e3 hf => ?_) (fun e3 hf => ?_)
  · refine j_tsIn (c := 3) 185 h e3 dL_law_32 (by decide) (by decide) rfl (by decide) ?_
    exact w_L_c3 h hs hn h1 hk18 hf
  refine j_case hf (fun e4 hf => ?_) (fun e4 hf => ?_)
  · refine j_tsIn (c := 4) 208 h e4 dL_law_32 (by decide) (by decide) rfl (by decide) ?_
    exact w_L_c4 h hs hn h1 hk18 hf
  refine j_case hf (fun e5 hf => ?_) (fun e5 hf => ?_)
  · refine j_tsIn (c := 5) 241 h e5 dL_law_32 (by decide) (by decide) rfl (by decide) ?_
    exact w_L_c5 h hs hn h1 hk18 hf
  refine j_case hf (fun e6 hf => ?_) (fun e6 hf => ?_)
  · refine j_tsIn (c := 6) 264 h e6 dL_law_32 (by decide) (by decide) rfl (by decide) ?_
    exact w_L_c6 h hs hn h1 hk18 hf
  refine j_case hf (fun e7 hf => ?_) (fun e7 hf => ?_)
  · refine j_tsIn (c := 7) 277 h e7 dL_law_32 (by decide) (by decide) rfl (by decide) ?_
    exact w_L_c7 h hs hn h1 hk18 hf
  refine j_case hf (fun e8 hf => ?_) (fun e8 hf => ?_)
  · refine j_tsIn (c := 8) 290 h e8 dL_law_32 (by decide) (by decide) rfl (by decide) ?_
    exact w_L_c8 h hs hn h1 hk18 hf
  refine j_case hf (fun e9 hf => ?_) (fun e9 hf => ?_)
  · refine j_tsIn (c := 9) 323 h e9 dL_law_32 (by decide) (by decide) rfl (by decide) ?_
    exact w_L_c9 h hs hn h1 hk18 hf
  refine j_case hf (fun e10 hf => ?_) (fun e10 hf => ?_)
  · refine j_tsIn (c := 10) 336 h e10 dL_law_32 (by decide) (by decide) rfl (by decide) ?_
    exact w_L_c10 h hs hn h1 hk18 hf
  refine j_case hf (fun e11 hf => ?_) (fun e11 hf => ?_)
  · refine j_tsIn (c := 11) 359 h e11 dL_law_32 (by decide) (by decide) rfl (by decide) ?_
    exact w_L_c11 h hs hn h1 hk18 hf
  refine j_case hf (fun e12 hf => ?_) (fun e12 hf => ?_)
  · refine j_tsIn (c := 12) 382 h e12 dL_law_32 (by decide) (by decide) rfl (by decide) ?_
    exact w_L_c12 h hs hn h1 hk18 hf
  refine j_case hf (fun e13 hf => ?_) (fun e13 hf => ?_)
  · refine j_tsIn (c := 13) 395 h e13 dL_law_32 (by decide) (by decide) rfl (by decide) ?_
    exact w_L_c13 h hs hn h1 hk18 hf
  refine j_case hf (fun e14 hf => ?_) (fun e14 hf => ?_)
  · refine j_tsIn (c := 14) 418 h e14 dL_law_32 (by decide) (by decide) rfl (by decide) ?_
    exact w_L_c14 h hs hn h1 hk18 hf
  refine j_case hf (fun e15 hf => ?_) (fun e15 hf => ?_)
  · refine j_tsIn (c := 15) 441 h e15 dL_law_32 (by decide) (by decide) rfl (by decide) ?_
    exact w_L_c15 h hs hn h1 hk18 hf
  refine j_case hf (fun e16 hf => ?_) (fun e16 hf => ?_)
  · refine j_tsIn (c := 16) 474 h e16 dL_law_32 (by decide) (by decide) rfl (by decide) ?_
    exact w_L_c16 h hs hn h1 hk18 hf
  refine j_case hf (fun e17 hf => ?_) (fun e17 hf => ?_)
  · refine j_tsIn (c := 17) 497 h e17 dL_law_32 (by decide) (by decide) rfl (by decide) ?_
    exact w_L_c17 h hs hn h1 hk18 hf
  refine j_case hf (fun e18 hf => ?_) (fun e18 hf => ?_)
  · refine j_tsIn (c := 18) 520 h e18 dL_law_32 (by decide) (by decide) rfl (by decide) ?_
    exact w_L_c18 h hs hn h1 hk18 hf
  refine j_case hf (fun e19 hf => ?_) (fun e19 hf => ?_)
  · refine j_tsIn (c := 19) 543 h e19 dL_law_32 (by decide) (by decide) rfl (by decide) ?_
    exact w_L_c19 h hs hn h1 hk18 hf
  refine j_case hf (fun e20 hf => ?_) (fun e20 hf => ?_)
  · refine j_tsIn (c := 20) 566 h e20 dL_law_32 (by decide) (by decide) rfl (by decide) ?_
    exact w_L_c20 h hs hn h1 hk18 hf
  refine j_case hf (fun e21 hf => ?_) (fun e21 hf => ?_)
  · refine j_tsIn (c := 21) 589 h e21 dL_law_32 (by decide) (by decide) rfl (by decide) ?_
    exact w_L_c21 h hs hn h1 hk18 hf
  refine j_tsOut 612 h dL_law_32 (by have n0 := ne_toInt e0 kt_0; have n1 := ne_toInt e1 kt_1; have n2 := ne_toInt e2 kt_2; have n3 := ne_toInt e3 kt_3; have n4 := ne_toInt e4 kt_4; have n5 := ne_toInt e5 kt_5; have n6 := ne_toInt e6 kt_6; have n7 := ne_toInt e7 kt_7; have n8 := ne_toInt e8 kt_8; have n9 := ne_toInt e9 kt_9; have n10 := ne_toInt e10 kt_10; have n11 := ne_toInt e11 kt_11; have n12 := ne_toInt e12 kt_12; have n13 := ne_toInt e13 kt_13; have n14 := ne_toInt e14 kt_14; have n15 := ne_toInt e15 kt_15; have n16 := ne_toInt e16 kt_16; have n17 := ne_toInt e17 kt_17; have n18 := ne_toInt e18 kt_18; have n19 := ne_toInt e19 kt_19; have n20 := ne_toInt e20 kt_20; have n21 := ne_toInt e21 kt_21; omega) (by decide) ?_
  exact w_L_612 h hk18 hf
def f_L_18 (K : KT) (P : PT) (xs : Nat → Int32) (Ls : Nat) : Nat → Nat → Nat → Nat → Int32 → VT → Option (Int32 × VT)
  | 0, _, _, _, _, _ => none
  | n + 1, l0, l1, l2, l3, V => f_L_body K P xs Ls (f_L_18 K P xs Ls n) l0 l1 l2 l3 V
theorem w_L_18 {g : GT} {K : KT} {P : PT} {n sl l0 l1 l2 Ls : Nat} {xs : Nat → Int32} {res : Int32 × VT} (h : OK g RL code 4 Jvm.Pilot.@@N@@.ret) (hs : SC g l0 Ls xs) (hn : n ≤ 600000 ∧ sl ≤ 7302250) (h1 : res.1 = 1) : ∀ (N : Nat) (l3 : Int32) (V : VT), f_L_18 K P xs Ls N l0 l1 l2 l3 V = some res → J g room_1 (LZ g) 4 K P V n sl 18 [some (.ref l0), some (.ref l1), some (.ref l2), some (.int l3)] [] := by
  intro N
  induction N with
  | zero => intro l3 V hf; rw [f_L_18] at hf; cases hf
  | succ N ih => intro l3 V hf; rw [f_L_18] at hf; exact w_L_body h hs hn h1 ih hf
/-- kinds, references and numbers behind the two constructors -/
def K0 (B : Nat) : KT := iK_X7 (kset (iK_X6 (kset (fun _ => none) B (.inl 4)) B) (B + 88) (.inl 5)) (B + 88)
def P0 (B : Nat) : PT := iP_X7 (prow (iP_X6 (prow (fun _ _ => none) B (fun _ => none)) B) (B + 88) (fun _ => none)) (B + 88)
def V0 (B : Nat) : VT := iV_X7 (vrow (iV_X6 (vrow (fun _ _ => 0) B (fun _ => 0)) B) (B + 88) (fun _ => 0)) (B + 88)
set_option maxRecDepth 20000 in
set_option maxHeartbeats 4000000 in
theorem w_L_0 {g : GT} {l0 Ls B : Nat} {xs : Nat → Int32} {res : Int32 × VT} (h : OK g RL code 4 Jvm.Pilot.@@N@@.ret) (hs : SC g l0 Ls xs) (h1 : res.1 = 1) (hB : gsz g = B) (hf : f_L_18 (K0 B) (P0 B) xs Ls FU l0 B (B + 88) 0 (V0 B) = some res) : J g room_1 (LZ g) 4 (fun _ => none) (fun _ _ => none) (fun _ _ => 0) 0 0 0 [some (.ref l0), none, none, none] [] := by
  refine j_new (q := 3) (ci := 4) (B) h (by omega) tyX6 tyX6_ok uin_X6 rfl rfl (by decide) cl_XL_7 ins_X6 ini_X6 ⟨Nat.le_of_ble_eq_true rfl, Nat.le_of_ble_eq_true rfl⟩ dL_law_0 rfl ?_
  refine j_dup (q := 4) h dL_law_3 rfl rfl ?_
  refine j_cI (q := 7) (As := []) h (ct_X6_init _ _ _ (by omega) kset_eq) ml_XL_9 im_X6_init ini_X6 cd_X6_init rfl (by decide +kernel) ⟨Nat.le_of_ble_eq_true rfl, Nat.le_of_ble_eq_true rfl⟩ ⟨rfl, rfl⟩ ⟨Nat.le_of_ble_eq_true rfl, Nat.le_of_ble_eq_true rfl⟩ (Nat.le_of_ble_eq_true rfl) dL_law_4 rfl rfl ?_
  refine j_astore_n (q := 8) [_, _, _, _] h dL_law_7 rfl (by decide) rfl rfl ?_
  refine j_new (q := 11) (ci := 5) (B + 88) h (by omega) tyX7 tyX7_ok uin_X7 rfl rfl (by decide) cl_XL_10 ins_X7 ini_X7 ⟨Nat.le_of_ble_eq_true rfl, Nat.le_of_ble_eq_true rfl⟩ dL_law_8 rfl ?_
  refine j_dup (q := 12) h dL_law_11 rfl rfl ?_
  refine j_cI (q := 15) (As := []) h (ct_X7_init _ _ _ (by omega) kset_eq) ml_XL_12 im_X7_init ini_X7 cd_X7_init rfl (by decide +kernel) ⟨Nat.le_of_ble_eq_true rfl, Nat.le_of_ble_eq_true rfl⟩ ⟨rfl, rfl⟩ ⟨Nat.le_of_ble_eq_true rfl, Nat.le_of_ble_eq_true rfl⟩ (Nat.le_of_ble_eq_true rfl) dL_law_12 rfl rfl ?_
  refine j_astore_n (q := 16) [_, _, _, _] h dL_law_15 rfl (by decide) rfl rfl ?_
  refine j_iconst (q := 17) (0) h dL_law_16 ki_0 rfl ?_
  refine j_istore_n (q := 18) [_, _, _, _] h dL_law_17 rfl (by decide) rfl rfl ?_
  exact w_L_18 h hs ⟨Nat.le_of_ble_eq_true rfl, Nat.le_of_ble_eq_true rfl⟩ h1 _ _ _ hf
