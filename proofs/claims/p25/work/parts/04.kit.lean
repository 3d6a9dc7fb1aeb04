/-! base of the walk: one list of words for all methods, contracts as equations, the call rows -/
def wG : List Cond := lw_tbl.filter goodWord
theorem wG1 {w : Cond} (h : w ∈ tables_1_1) (g : goodWord w = true) : w ∈ wG := List.mem_filter.mpr ⟨List.mem_append_right _ (List.mem_append_left _ h), g⟩
theorem wG2 {w : Cond} (h : w ∈ tables_1_2) (g : goodWord w = true) : w ∈ wG := List.mem_filter.mpr ⟨List.mem_append_right _ (List.mem_append_right _ h), g⟩
theorem wGp {q : MethodName × Nat} (h : q ∈ lw_privs) (g : goodWord (Cond.selects q.1.cls q.1 q.1) = true) : Cond.selects q.1.cls q.1 q.1 ∈ wG := List.mem_filter.mpr ⟨List.mem_append_left _ (List.mem_map_of_mem h), g⟩
theorem wGood {c : Cond} (h : c ∈ wG) : GoodIn wG (c :: wG) := by
  intro w hw
  have h2 : w ∈ wG := by
    rcases List.mem_cons.mp hw with e | e
    · rw [e]; exact h
    · exact e
  exact ⟨h2, good_of_word (List.mem_filter.mp h2).2⟩
theorem inG0 : ∀ w ∈ wsX00, w ∈ wG := by decide +kernel
theorem inG2 : ∀ w ∈ wsX20, w ∈ wG := by decide +kernel
theorem inG3 : ∀ w ∈ wsX30, w ∈ wG := by decide +kernel
def nw0 : Cond := Cond.methodLinkNest RX0 29 yX3_contains "RankRings"
def nw2 : Cond := Cond.methodLinkNest RX2 64 yX3_isRank "RankRings"
def NW (U : State) : Prop := va_Nw nw0 U ∧ va_Nw nw2 U
theorem NW.warm {s U : State} (hW : s.WarmedH U.vm) (h : NW s) : NW U := ⟨va_Nw.warmM hW h.1, va_Nw.warmM hW h.2⟩
theorem NW.same {u U : State} (h : u.vm = U.vm) (hN : NW u) : NW U := ⟨va_Nw.same rfl h hN.1, va_Nw.same rfl h hN.2⟩
abbrev tyL (cI cC cH : ClassId) : List (ClassId × FieldType) := [(cI, .int), (cC, .char), (cH, .object "RankRings$Field")]
def PC (D : va_G) (T : List (ClassId × FieldType)) (sz : Nat) (ws : va_W) (U : State) : Prop := U.heap.size = sz ∧ va_P D vwCl ws U.heap ∧ va_K D vwCl T U ∧ va_D (fun _ => True) ws ∧ NW U
def PQ (D : va_G) (T : List (ClassId × FieldType)) (A : Nat → Prop) (ws : va_W) (t : State) : Prop := va_P D vwCl ws t.heap ∧ va_K D vwCl T t ∧ va_D A ws
def rmm (fr lo : Nat) : Room := { frames := fr, cells := 0, slots := 0, locals := lo }
/-- a method that makes nothing: from the cells wb it answers r and leaves the cells wa -/
def CTi (l : Launch) (y : MethodName) (cc : ByteArray) (maxL : Nat) (ret : Option FieldType) (fr lo : Nat) (D : va_G) (T : List (ClassId × FieldType)) (av : List Value) (wb wa : va_W) (r : Int32) : Prop :=
  ∀ sz : Nat, Met l y (Cond.code y cc maxL ret :: wG) (rmm fr lo) (va_Pc av (PC D T sz wb)) (va_Qi (fun r' (_ : Unit) => r' = r) (fun _ => PQ D T (va_A wb sz) wa) (va_A wb sz)) 0 0 (va_A wb sz)
def CTv (l : Launch) (y : MethodName) (cc : ByteArray) (maxL : Nat) (ret : Option FieldType) (fr lo : Nat) (D : va_G) (T : List (ClassId × FieldType)) (av : List Value) (wb wa : va_W) : Prop :=
  ∀ sz : Nat, Met l y (Cond.code y cc maxL ret :: wG) (rmm fr lo) (va_Pc av (PC D T sz wb)) (va_Qv (fun (_ : Unit) => True) (fun _ => PQ D T (va_A wb sz) wa) (va_A wb sz)) 0 0 (va_A wb sz)
/-- what stands fixed while a method is walked -/
def FX (p : Program) (m : MethodId) (c : Code) (cc : ByteArray) (nL : Nat) (s : State) (args : Array Value) (own : String) (D : va_G) (T : List (ClassId × FieldType)) (A : Nat → Prop) : Prop :=
  p.tables.exec = Jvm.exec ∧ c.code = cc ∧ c.maxLocals = nL ∧ s.vm.findClass own = some m.cls ∧ (∀ w ∈ wG, w.before args s = true) ∧ NW s ∧ va_K D vwCl T s ∧ (∀ q : Nat, s.heap.size ≤ q → A q)
/-- a method's walk: Q is the end that is wanted, hret brings it about -/
theorem ctI {l : Launch} {y : MethodName} {cc : ByteArray} {maxL : Nat} {fr lo : Nat} {D : va_G} {T : List (ClassId × FieldType)} {av : List Value} {wb wa : va_W} {r : Int32} (hy : plainName y.cls = true) (hlen : (lg_sl av).length ≤ maxL)
    (body : ∀ (p : Program) (e : Env) (s : State) (m : MethodId) (args : Array Value) (below : List Frame) (meth : Method) (c : Code) (A : Nat → Prop) (Q : State → Prop) (ls : Array Slot), FX p m c cc maxL s args y.cls D T A →
      (∀ (v : Int32) (H : Heap) (locs : List Loc) (pc : Nat) (ls : Array Slot), v = r → va_P D vwCl wa H → va_D A wa → va_S A s.heap H locs → decode cc pc = .ok (.ireturn, 1) → W p l e (rmm fr lo) s m args below meth c H locs 0 0 Q (F0 m pc ls [.int v])) →
      va_P D vwCl wb s.heap → va_D A wb → va_S A s.heap s.heap [] → lv_has ls maxL (lv_args 0 av) →
      W p l e (rmm fr lo) s m args below meth c s.heap [] 0 0 Q (F0 m 0 ls [])) : CTi l y cc maxL (some .int) fr lo D T av wb wa r := by
  intro sz
  refine Met.ofW (cc := cc) (maxL := maxL) (ret := some .int) hy rfl ?_
  intro p e s m args below meth c s₁ B hml hv
  obtain ⟨rfl, hsz, hP, hK, hD0, hN⟩ := hv
  have hts := atoms_spec (ws := Cond.code y cc maxL (some .int) :: wG) B.pre
  subst hsz
  rw [lg_entry_eq]
  have hr := B.returns
  have hlk := B.notSynchronized
  have F : FX p m c cc maxL s av.toArray y.cls D T (va_A wb s.heap.size) := ⟨B.exec, B.bytes, hml, findClass_of_methodNamed B.named, fun w h => hts w (List.mem_cons_of_mem _ h), hN, hK, fun q h => Or.inr h⟩
  refine body p e s m _ below meth c _ _ _ F (fun v H locs pc ls e1 hP hD hS hdg => ?_) hP (hD0.self (sz := s.heap.size)) va_S.rf (lv_entry av hlen)
  exact W.iret F.1 F.2.1 hr (fun t ht hW => ⟨⟨v, (), rfl, e1, by rw [ht]; exact hP, va_K.moved hW.alike F.2.2.2.2.2.2.1, hD⟩, hS.F ht⟩) hS.2.2 hdg
theorem ctZ {l : Launch} {y : MethodName} {cc : ByteArray} {maxL : Nat} {ty : FieldType} {fr lo : Nat} {D : va_G} {T : List (ClassId × FieldType)} {av : List Value} {wb wa : va_W} {r : Int32} (hy : plainName y.cls = true) (hlen : (lg_sl av).length ≤ maxL)
    (body : ∀ (p : Program) (e : Env) (s : State) (m : MethodId) (args : Array Value) (below : List Frame) (meth : Method) (c : Code) (A : Nat → Prop) (Q : State → Prop) (ls : Array Slot), FX p m c cc maxL s args y.cls D T A →
      (∀ (v : Int32) (H : Heap) (locs : List Loc) (pc : Nat) (ls : Array Slot), narrow ty (.int v) = .int v → v = r → va_P D vwCl wa H → va_D A wa → va_S A s.heap H locs → decode cc pc = .ok (.ireturn, 1) → W p l e (rmm fr lo) s m args below meth c H locs 0 0 Q (F0 m pc ls [.int v])) →
      va_P D vwCl wb s.heap → va_D A wb → va_S A s.heap s.heap [] → lv_has ls maxL (lv_args 0 av) →
      W p l e (rmm fr lo) s m args below meth c s.heap [] 0 0 Q (F0 m 0 ls [])) : CTi l y cc maxL (some ty) fr lo D T av wb wa r := by
  intro sz
  refine Met.ofW (cc := cc) (maxL := maxL) (ret := some ty) hy rfl ?_
  intro p e s m args below meth c s₁ B hml hv
  obtain ⟨rfl, hsz, hP, hK, hD0, hN⟩ := hv
  have hts := atoms_spec (ws := Cond.code y cc maxL (some ty) :: wG) B.pre
  subst hsz
  rw [lg_entry_eq]
  have hr := B.returns
  have hlk := B.notSynchronized
  have F : FX p m c cc maxL s av.toArray y.cls D T (va_A wb s.heap.size) := ⟨B.exec, B.bytes, hml, findClass_of_methodNamed B.named, fun w h => hts w (List.mem_cons_of_mem _ h), hN, hK, fun q h => Or.inr h⟩
  refine body p e s m _ below meth c _ _ _ F (fun v H locs pc ls hnr e1 hP hD hS hdg => ?_) hP (hD0.self (sz := s.heap.size)) va_S.rf (lv_entry av hlen)
  exact W.zret F.1 F.2.1 hr hnr (fun t ht hW => ⟨⟨v, (), rfl, e1, by rw [ht]; exact hP, va_K.moved hW.alike F.2.2.2.2.2.2.1, hD⟩, hS.F ht⟩) hS.2.2 hdg
theorem ctV {l : Launch} {y : MethodName} {cc : ByteArray} {maxL : Nat} {fr lo : Nat} {D : va_G} {T : List (ClassId × FieldType)} {av : List Value} {wb wa : va_W} (hy : plainName y.cls = true) (hlen : (lg_sl av).length ≤ maxL)
    (body : ∀ (p : Program) (e : Env) (s : State) (m : MethodId) (args : Array Value) (below : List Frame) (meth : Method) (c : Code) (A : Nat → Prop) (Q : State → Prop) (ls : Array Slot), FX p m c cc maxL s args y.cls D T A →
      (∀ (H : Heap) (locs : List Loc) (pc : Nat) (ls : Array Slot), va_P D vwCl wa H → va_D A wa → va_S A s.heap H locs → decode cc pc = .ok (.return_, 1) → W p l e (rmm fr lo) s m args below meth c H locs 0 0 Q (F0 m pc ls [])) →
      va_P D vwCl wb s.heap → va_D A wb → va_S A s.heap s.heap [] → lv_has ls maxL (lv_args 0 av) →
      W p l e (rmm fr lo) s m args below meth c s.heap [] 0 0 Q (F0 m 0 ls [])) : CTv l y cc maxL none fr lo D T av wb wa := by
  intro sz
  refine Met.ofW (cc := cc) (maxL := maxL) (ret := none) hy rfl ?_
  intro p e s m args below meth c s₁ B hml hv
  obtain ⟨rfl, hsz, hP, hK, hD0, hN⟩ := hv
  have hts := atoms_spec (ws := Cond.code y cc maxL none :: wG) B.pre
  subst hsz
  rw [lg_entry_eq]
  have hr := B.returns
  have hlk := B.notSynchronized
  have F : FX p m c cc maxL s av.toArray y.cls D T (va_A wb s.heap.size) := ⟨B.exec, B.bytes, hml, findClass_of_methodNamed B.named, fun w h => hts w (List.mem_cons_of_mem _ h), hN, hK, fun q h => Or.inr h⟩
  refine body p e s m _ below meth c _ _ _ F (fun H locs pc ls hP hD hS hdg => ?_) hP (hD0.self (sz := s.heap.size)) va_S.rf (lv_entry av hlen)
  exact W.vret F.1 F.2.1 hr (fun t ht hW => ⟨⟨(), rfl, trivial, by rw [ht]; exact hP, va_K.moved hW.alike F.2.2.2.2.2.2.1, hD⟩, hS.F ht⟩) hS.2.2 hdg
/-- pieces of the pure functions -/
def chk {α : Type} (b : Bool) (k : Option α) : Option α := if b = true then k else none
def sm {α β γ : Type} (q : α ⊕ β) (f : α → γ) (g : β → γ) : γ := match q with
  | .inl a => f a
  | .inr b => g b
theorem chk_s {α : Type} {b : Bool} {k : Option α} {y : α} (h : chk b k = some y) : b = true ∧ k = some y := by
  unfold chk at h
  by_cases e : b = true
  · rw [if_pos e] at h; exact ⟨e, h⟩
  · rw [if_neg e] at h; cases h
theorem bd {α β : Type} {x : Option α} {f : α → Option β} {y : β} (h : Option.bind x f = some y) : ∃ q, x = some q ∧ f q = some y := by
  cases x with
  | none => cases h
  | some q => exact ⟨q, rfl, h⟩
theorem itT {α : Type} {c : Prop} {i : Decidable c} {a b y : α} (h : ite c a b = y) (hc : c) : a = y := by rw [if_pos hc] at h; exact h
theorem itF {α : Type} {c : Prop} {i : Decidable c} {a b y : α} (h : ite c a b = y) (hc : ¬ c) : b = y := by rw [if_neg hc] at h; exact h
theorem no_s {α : Type} {P : Prop} {y : α} (h : (none : Option α) = some y) : P := by cases h
/-- a place in a row of n -/
def gi (i : Int32) (n : Nat) : Bool := decide (0 ≤ i.toInt) && decide (i.toInt < n)
theorem gi_in {i : Int32} {n : Nat} (h : gi i n = true) : vp_in i n := by
  unfold gi at h
  simp only [Bool.and_eq_true, decide_eq_true_eq] at h
  exact vp_in_iff.mpr h
def isZ (v : Int32) : Bool := decide (v = 0) || decide (v = 1)
theorem isZ_n {v : Int32} (h : isZ v = true) : narrow .boolean (.int v) = .int v := by
  unfold isZ at h
  simp only [Bool.or_eq_true, decide_eq_true_eq] at h
  rcases h with rfl | rfl <;> rfl
def isC (v : Int32) : Bool := decide ((v.toUInt32 % 65536).toInt32 = v)
theorem isC_n {v : Int32} (h : isC v = true) : narrow .char (.int v) = .int v := by
  unfold isC at h
  have h := of_decide_eq_true h
  have h2 := pk_nc v
  rw [h] at h2
  exact h2
section CALLS
variable {p : Program} {l : Launch} {e : Env} {R : Room} {s : State} {m : MethodId} {args : Array Value} {below : List Frame} {meth : Method} {c : Code} {H : Heap} {locs : List Loc} {Q : State → Prop}
variable {cc : ByteArray} {pc nL : Nat} {ls : Array Slot} {rest st0 : List Value} {A : Nat → Prop} {D : va_G} {T : List (ClassId × FieldType)} {own : String}
variable {y : MethodName} {cc2 : ByteArray} {maxL2 : Nat} {ret2 : Option FieldType} {fr lo : Nat} {As : List Value} {b : Nat} {ws wb wa wr ws' : va_W} {r : Int32} {C host : String} {index n : Nat} {lvs : List (Nat × Value)}
theorem wnm {x : Int32} (v : Int32) (h : x = v) (k : W p l e R s m args below meth c H locs 0 0 Q (F0 m pc ls (.int v :: rest))) : W p l e R s m args below meth c H locs 0 0 Q (F0 m pc ls (.int x :: rest)) := h ▸ k
/-- the static facts of a callee -/
def YF (y : MethodName) (cc2 : ByteArray) (maxL2 : Nat) (ret2 : Option FieldType) (n : Nat) : Prop :=
  Cond.code y cc2 maxL2 ret2 ∈ wG ∧ Cond.initialized y.cls ∈ wG ∧ (y.cls ≠ "java/lang/invoke/MethodHandle" ∧ y.cls ≠ "java/lang/invoke/VarHandle" ∧ (parseMethodDescriptor y.desc).map (fun d => d.parameters.length) = some n)
theorem pcBlind (av : List Value) (sz : Nat) (ws : va_W) : FrameBlind (va_Pc av (PC D T sz ws)) := by
  intro a U g mk q
  obtain ⟨q0, q1, qP, qK, qD, qN⟩ := q
  exact ⟨q0, q1, qP, va_K.moved (u := U) (U := U.calling g mk a) (Vm.Alike.refl U.vm) qK, qD, NW.same (u := U) (U := U.calling g mk a) rfl qN⟩
theorem preOk {av : List Value} (F : FX p m c cc nL s args own D T A) (hP : va_P D vwCl wb H) (hD : va_D A wb) : ∀ U : State, U.heap = H → s.WarmedH U.vm → va_Pc av (PC D T H.size wb) av.toArray U :=
  fun U hU hW => ⟨rfl, by rw [hU], by rw [hU]; exact hP, va_K.moved hW.alike F.2.2.2.2.2.2.1, hD.weaken (fun _ _ _ _ => trivial), NW.warm hW F.2.2.2.2.2.1⟩
theorem cbOf (F : FX p m c cc nL s args own D T A) (Y : YF y cc2 maxL2 ret2 n) (hl : Cond.methodLink own index y ∈ wG) (hR : fr + 1 ≤ R.frames ∧ 8 + (maxL2 + 11) + lo ≤ R.locals) : CallB R s args own index y cc2 maxL2 ret2 (Cond.code y cc2 maxL2 ret2 :: wG) (rmm fr lo) 0 0 n :=
  callB_of n F.2.2.2.2.1 (wGood Y.1) rfl rfl rfl (F.2.2.2.2.1 _ Y.2.1) (F.2.2.2.2.1 _ hl) Y.2.2 hR
/-- behind a call that makes nothing: the world, in an order that is given -/
theorem joinOk {H1 : Heap} (F : FX p m c cc nL s args own D T A) (hP : va_P D vwCl ws H) (hD : va_D A ws) (hS : va_S A s.heap H locs) (isC isR perm : List Nat) (hC : isC.map (fun i => ws[i]?) = wb.map some) (hR : isR.map (fun i => ws[i]?) = wr.map some) (hn : va_nd isR = true) (hdis : ∀ i ∈ isR, i ∉ isC)
    (hp : perm.map (fun i => (wr ++ wa)[i]?) = ws'.map some) (hnp : va_nd perm = true) (hk : ∀ q : Nat, q < H.size → ¬ va_A wb H.size q → H1[q]? = H[q]?) (hP1 : va_P D vwCl wa H1) (hD1 : va_D (va_A wb H.size) wa) : va_P D vwCl ws' H1 ∧ va_D A ws' := by
  obtain ⟨a1, a2⟩ := va_join hP hD isC isR hC hR hn hdis hk (va_free hD hS F.2.2.2.2.2.2.2 isC hC) hP1 hD1
  refine ⟨fun k q hk => ?_, a2.sub perm hnp hp⟩
  have h1 : (perm.map (fun i => (wr ++ wa)[i]?))[k]? = some (some q) := by rw [hp, List.getElem?_map, hk]; rfl
  rw [List.getElem?_map] at h1
  cases hi : perm[k]? with
  | none => rw [hi] at h1; cases h1
  | some i => rw [hi] at h1; exact a1 i q (Option.some.inj h1)
theorem kvI (F : FX p m c cc nL s args own D T A) (hM : CTi l y cc2 maxL2 ret2 fr lo D T (.ref b :: As) wb wa r) (Y : YF y cc2 maxL2 ret2 n) (hw : Cond.methodLink own index y ∈ wG ∧ Cond.instanceMethod y ∈ wG ∧ Cond.selects C y y ∈ wG)
    (hP : va_P D vwCl ws H) (hD : va_D A ws) (hS : va_S A s.heap H locs) (isC isR perm : List Nat) (hC : isC.map (fun i => ws[i]?) = wb.map some) (hRm : isR.map (fun i => ws[i]?) = wr.map some) (hnC : va_nd isC = true) (hnR : va_nd isR = true) (hdis : ∀ i ∈ isR, i ∉ isC)
    (hp : perm.map (fun i => (wr ++ wa)[i]?) = ws'.map some) (hnp : va_nd perm = true) (q0 ci : Nat) {fs : List Value} {vC : vw_C} (hq : ws[q0]? = some (b, .inr (ci, fs))) (hci : vwCl[ci]? = some vC) (hvC : vC.1 = C)
    (hroom : fr + 1 ≤ R.frames ∧ 8 + (maxL2 + 11) + lo ≤ R.locals ∧ 0 ≤ R.cells ∧ 0 ≤ R.slots) (hn : As.length = n) (hsz : lv_has ls nL lvs) (hst : st0 = As.reverse ++ .ref b :: rest) (hrest : (rest.map fun v => v.category).sum ≤ 8) (hdg : decode cc pc = .ok (.invokevirtual index, 3))
    (kk : ∀ (H1 : Heap) (locs1 : List Loc), va_P D vwCl ws' H1 → va_D A ws' → va_S A s.heap H1 locs1 → W p l e R s m args below meth c H1 locs1 0 0 Q (F0 m (pc + 3) ls (.int r :: rest))) : W p l e R s m args below meth c H locs 0 0 Q (F0 m pc ls st0) := by
  have hPc : va_P D vwCl wb H := fun k q hk => by
    have h1 : (isC.map (fun i => ws[i]?))[k]? = some (some q) := by rw [hC, List.getElem?_map, hk]; rfl
    rw [List.getElem?_map] at h1
    cases hi : isC[k]? with
    | none => rw [hi] at h1; cases h1
    | some i => rw [hi] at h1; exact hP i q (Option.some.inj h1)
  have hDc : va_D A wb := hD.sub isC hnC hC
  have hF := va_free hD hS F.2.2.2.2.2.2.2 isC hC
  have hrv := va_recv F.2.2.2.2.2.2.1 hP hci hq
  rw [hvC] at hrv
  refine va_calli (va_runV (C := C) (As := As) (rest := rest) (b := b) ⟨F.1, F.2.1, F.2.2.1, F.2.2.2.1, F.2.2.2.2.1⟩ (hM H.size) ⟨cbOf F Y hw.1 ⟨hroom.1, hroom.2.1⟩, F.2.2.2.2.1 _ hw.2.1, F.2.2.2.2.1 _ hw.2.2⟩ ⟨pcBlind _ _ _, hrv, preOk F hPc hDc⟩ rfl hn hsz.1 hst (lv_room hrest) hdg ⟨hroom.2.2.1, hroom.2.2.2⟩) hS (fun q _ h => hF q h) hF (fun r1 u t H1 locs1 ht hvm hw1 hB hz1 hk1 hS1 => ?_)
  obtain ⟨hP1, hK1, hD1⟩ := hB
  rw [ht] at hP1
  obtain ⟨a1, a2⟩ := joinOk F hP hD hS isC isR perm hC hRm hnR hdis hp hnp hk1 hP1 hD1
  have e1 : r1 = r := hw1
  subst e1
  exact kk H1 locs1 a1 a2 hS1
theorem kvV (F : FX p m c cc nL s args own D T A) (hM : CTv l y cc2 maxL2 ret2 fr lo D T (.ref b :: As) wb wa) (Y : YF y cc2 maxL2 ret2 n) (hw : Cond.methodLink own index y ∈ wG ∧ Cond.instanceMethod y ∈ wG ∧ Cond.selects C y y ∈ wG)
    (hP : va_P D vwCl ws H) (hD : va_D A ws) (hS : va_S A s.heap H locs) (isC isR perm : List Nat) (hC : isC.map (fun i => ws[i]?) = wb.map some) (hRm : isR.map (fun i => ws[i]?) = wr.map some) (hnC : va_nd isC = true) (hnR : va_nd isR = true) (hdis : ∀ i ∈ isR, i ∉ isC)
    (hp : perm.map (fun i => (wr ++ wa)[i]?) = ws'.map some) (hnp : va_nd perm = true) (q0 ci : Nat) {fs : List Value} {vC : vw_C} (hq : ws[q0]? = some (b, .inr (ci, fs))) (hci : vwCl[ci]? = some vC) (hvC : vC.1 = C)
    (hroom : fr + 1 ≤ R.frames ∧ 8 + (maxL2 + 11) + lo ≤ R.locals ∧ 0 ≤ R.cells ∧ 0 ≤ R.slots) (hn : As.length = n) (hsz : lv_has ls nL lvs) (hst : st0 = As.reverse ++ .ref b :: rest) (hrest : (rest.map fun v => v.category).sum ≤ 8) (hdg : decode cc pc = .ok (.invokevirtual index, 3))
    (kk : ∀ (H1 : Heap) (locs1 : List Loc), va_P D vwCl ws' H1 → va_D A ws' → va_S A s.heap H1 locs1 → W p l e R s m args below meth c H1 locs1 0 0 Q (F0 m (pc + 3) ls rest)) : W p l e R s m args below meth c H locs 0 0 Q (F0 m pc ls st0) := by
  have hPc : va_P D vwCl wb H := fun k q hk => by
    have h1 : (isC.map (fun i => ws[i]?))[k]? = some (some q) := by rw [hC, List.getElem?_map, hk]; rfl
    rw [List.getElem?_map] at h1
    cases hi : isC[k]? with
    | none => rw [hi] at h1; cases h1
    | some i => rw [hi] at h1; exact hP i q (Option.some.inj h1)
  have hDc : va_D A wb := hD.sub isC hnC hC
  have hF := va_free hD hS F.2.2.2.2.2.2.2 isC hC
  have hrv := va_recv F.2.2.2.2.2.2.1 hP hci hq
  rw [hvC] at hrv
  refine va_callv (va_runV (C := C) (As := As) (rest := rest) (b := b) ⟨F.1, F.2.1, F.2.2.1, F.2.2.2.1, F.2.2.2.2.1⟩ (hM H.size) ⟨cbOf F Y hw.1 ⟨hroom.1, hroom.2.1⟩, F.2.2.2.2.1 _ hw.2.1, F.2.2.2.2.1 _ hw.2.2⟩ ⟨pcBlind _ _ _, hrv, preOk F hPc hDc⟩ rfl hn hsz.1 hst (lv_room hrest) hdg ⟨hroom.2.2.1, hroom.2.2.2⟩) hS (fun q _ h => hF q h) hF (fun u t H1 locs1 ht hvm hw1 hB hz1 hk1 hS1 => ?_)
  obtain ⟨hP1, hK1, hD1⟩ := hB
  rw [ht] at hP1
  obtain ⟨a1, a2⟩ := joinOk F hP hD hS isC isR perm hC hRm hnR hdis hp hnp hk1 hP1 hD1
  exact kk H1 locs1 a1 a2 hS1
/-- a static call that answers an int -/
theorem ksI (F : FX p m c cc nL s args own D T A) (hM : CTi l y cc2 maxL2 ret2 fr lo D T As wb wa r) (Y : YF y cc2 maxL2 ret2 n) (hw : Cond.methodLink own index y ∈ wG ∧ Cond.static y ∈ wG)
    (hP : va_P D vwCl ws H) (hD : va_D A ws) (hS : va_S A s.heap H locs) (isC isR perm : List Nat) (hC : isC.map (fun i => ws[i]?) = wb.map some) (hRm : isR.map (fun i => ws[i]?) = wr.map some) (hnC : va_nd isC = true) (hnR : va_nd isR = true) (hdis : ∀ i ∈ isR, i ∉ isC)
    (hp : perm.map (fun i => (wr ++ wa)[i]?) = ws'.map some) (hnp : va_nd perm = true)
    (hroom : fr + 1 ≤ R.frames ∧ 8 + (maxL2 + 11) + lo ≤ R.locals ∧ 0 ≤ R.cells ∧ 0 ≤ R.slots) (hn : As.length = n) (hsz : lv_has ls nL lvs) (hst : st0 = As.reverse ++ rest) (hrest : (rest.map fun v => v.category).sum ≤ 8) (hdg : decode cc pc = .ok (.invokestatic index, 3))
    (kk : ∀ (H1 : Heap) (locs1 : List Loc), va_P D vwCl ws' H1 → va_D A ws' → va_S A s.heap H1 locs1 → W p l e R s m args below meth c H1 locs1 0 0 Q (F0 m (pc + 3) ls (.int r :: rest))) : W p l e R s m args below meth c H locs 0 0 Q (F0 m pc ls st0) := by
  have hPc : va_P D vwCl wb H := fun k q hk => by
    have h1 : (isC.map (fun i => ws[i]?))[k]? = some (some q) := by rw [hC, List.getElem?_map, hk]; rfl
    rw [List.getElem?_map] at h1
    cases hi : isC[k]? with
    | none => rw [hi] at h1; cases h1
    | some i => rw [hi] at h1; exact hP i q (Option.some.inj h1)
  have hDc : va_D A wb := hD.sub isC hnC hC
  have hF := va_free hD hS F.2.2.2.2.2.2.2 isC hC
  refine va_calli (va_runS (As := As) (rest := rest) ⟨F.1, F.2.1, F.2.2.1, F.2.2.2.1, F.2.2.2.2.1⟩ (hM H.size) ⟨cbOf F Y hw.1 ⟨hroom.1, hroom.2.1⟩, F.2.2.2.2.1 _ hw.2⟩ ⟨pcBlind _ _ _, preOk F hPc hDc⟩ rfl hn hsz.1 hst (lv_room hrest) hdg ⟨hroom.2.2.1, hroom.2.2.2⟩) hS (fun q _ h => hF q h) hF (fun r1 u t H1 locs1 ht hvm hw1 hB hz1 hk1 hS1 => ?_)
  obtain ⟨hP1, hK1, hD1⟩ := hB
  rw [ht] at hP1
  obtain ⟨a1, a2⟩ := joinOk F hP hD hS isC isR perm hC hRm hnR hdis hp hnp hk1 hP1 hD1
  have e1 : r1 = r := hw1
  subst e1
  exact kk H1 locs1 a1 a2 hS1
theorem ksV (F : FX p m c cc nL s args own D T A) (hM : CTv l y cc2 maxL2 ret2 fr lo D T As wb wa) (Y : YF y cc2 maxL2 ret2 n) (hw : Cond.methodLink own index y ∈ wG ∧ Cond.static y ∈ wG)
    (hP : va_P D vwCl ws H) (hD : va_D A ws) (hS : va_S A s.heap H locs) (isC isR perm : List Nat) (hC : isC.map (fun i => ws[i]?) = wb.map some) (hRm : isR.map (fun i => ws[i]?) = wr.map some) (hnC : va_nd isC = true) (hnR : va_nd isR = true) (hdis : ∀ i ∈ isR, i ∉ isC)
    (hp : perm.map (fun i => (wr ++ wa)[i]?) = ws'.map some) (hnp : va_nd perm = true)
    (hroom : fr + 1 ≤ R.frames ∧ 8 + (maxL2 + 11) + lo ≤ R.locals ∧ 0 ≤ R.cells ∧ 0 ≤ R.slots) (hn : As.length = n) (hsz : lv_has ls nL lvs) (hst : st0 = As.reverse ++ rest) (hrest : (rest.map fun v => v.category).sum ≤ 8) (hdg : decode cc pc = .ok (.invokestatic index, 3))
    (kk : ∀ (H1 : Heap) (locs1 : List Loc), va_P D vwCl ws' H1 → va_D A ws' → va_S A s.heap H1 locs1 → W p l e R s m args below meth c H1 locs1 0 0 Q (F0 m (pc + 3) ls rest)) : W p l e R s m args below meth c H locs 0 0 Q (F0 m pc ls st0) := by
  have hPc : va_P D vwCl wb H := fun k q hk => by
    have h1 : (isC.map (fun i => ws[i]?))[k]? = some (some q) := by rw [hC, List.getElem?_map, hk]; rfl
    rw [List.getElem?_map] at h1
    cases hi : isC[k]? with
    | none => rw [hi] at h1; cases h1
    | some i => rw [hi] at h1; exact hP i q (Option.some.inj h1)
  have hDc : va_D A wb := hD.sub isC hnC hC
  have hF := va_free hD hS F.2.2.2.2.2.2.2 isC hC
  refine va_callv (va_runS (As := As) (rest := rest) ⟨F.1, F.2.1, F.2.2.1, F.2.2.2.1, F.2.2.2.2.1⟩ (hM H.size) ⟨cbOf F Y hw.1 ⟨hroom.1, hroom.2.1⟩, F.2.2.2.2.1 _ hw.2⟩ ⟨pcBlind _ _ _, preOk F hPc hDc⟩ rfl hn hsz.1 hst (lv_room hrest) hdg ⟨hroom.2.2.1, hroom.2.2.2⟩) hS (fun q _ h => hF q h) hF (fun u t H1 locs1 ht hvm hw1 hB hz1 hk1 hS1 => ?_)
  obtain ⟨hP1, hK1, hD1⟩ := hB
  rw [ht] at hP1
  obtain ⟨a1, a2⟩ := joinOk F hP hD hS isC isR perm hC hRm hnR hdis hp hnp hk1 hP1 hD1
  exact kk H1 locs1 a1 a2 hS1
/-- a static call of a nest mate's private method, that answers an int and touches no cell -/
theorem knI (F : FX p m c cc nL s args own D T A) (hM : CTi l y cc2 maxL2 ret2 fr lo D T As [] [] r) (Y : YF y cc2 maxL2 ret2 n) (hs : Cond.static y ∈ wG) (hN : va_Nw (.methodLinkNest own index y host) s)
    (hP : va_P D vwCl ws H) (hD : va_D A ws) (hS : va_S A s.heap H locs)
    (hroom : fr + 1 ≤ R.frames ∧ 8 + (maxL2 + 11) + lo ≤ R.locals ∧ 0 ≤ R.cells ∧ 0 ≤ R.slots) (hn : As.length = n) (hsz : lv_has ls nL lvs) (hst : st0 = As.reverse ++ rest) (hrest : (rest.map fun v => v.category).sum ≤ 8) (hdg : decode cc pc = .ok (.invokestatic index, 3))
    (kk : ∀ (H1 : Heap) (locs1 : List Loc), va_P D vwCl ws H1 → va_D A ws → va_S A s.heap H1 locs1 → W p l e R s m args below meth c H1 locs1 0 0 Q (F0 m (pc + 3) ls (.int r :: rest))) : W p l e R s m args below meth c H locs 0 0 Q (F0 m pc ls st0) := by
  have hPc : va_P D vwCl [] H := fun k q hk => by simp at hk
  have hDc : va_D A [] := ⟨fun i j p q h => by simp at h, fun k q h => by simp at h⟩
  have hF : ∀ q, va_A [] H.size q → A q := fun q h => by
    rcases h with ⟨k, e, h⟩ | h
    · simp at h
    · exact F.2.2.2.2.2.2.2 q (Nat.le_trans hS.1 h)
  refine va_calli (va_runSN (As := As) (rest := rest) (host := host) ⟨F.1, F.2.1, F.2.2.1, F.2.2.2.1, F.2.2.2.2.1⟩ (hM H.size) ⟨va_cnB n F.2.2.2.2.1 (wGood Y.1) rfl rfl rfl hN (F.2.2.2.2.1 _ Y.2.1) Y.2.2 ⟨hroom.1, hroom.2.1⟩, F.2.2.2.2.1 _ hs, trivial⟩ ⟨pcBlind _ _ _, preOk F hPc hDc⟩ rfl hn hsz.1 hst (lv_room hrest) hdg ⟨hroom.2.2.1, hroom.2.2.2⟩) hS (fun q _ h => hF q h) hF (fun r1 u t H1 locs1 ht hvm hw1 hB hz1 hk1 hS1 => ?_)
  have e1 : r1 = r := hw1
  subst e1
  refine kk H1 locs1 (fun k q hk => ?_) hD hS1
  have hlt := (hP k q hk).lt
  refine (hP k q hk).kept (hk1 q.1 hlt ?_)
  rintro (⟨k2, e2, h⟩ | h)
  · simp at h
  · omega
/-- a static call that touches no cell -/
theorem ks0 (F : FX p m c cc nL s args own D T A) (hM : CTi l y cc2 maxL2 ret2 fr lo D T As [] [] r) (Y : YF y cc2 maxL2 ret2 n) (hw : Cond.methodLink own index y ∈ wG ∧ Cond.static y ∈ wG)
    (hP : va_P D vwCl ws H) (hD : va_D A ws) (hS : va_S A s.heap H locs)
    (hroom : fr + 1 ≤ R.frames ∧ 8 + (maxL2 + 11) + lo ≤ R.locals ∧ 0 ≤ R.cells ∧ 0 ≤ R.slots) (hn : As.length = n) (hsz : lv_has ls nL lvs) (hst : st0 = As.reverse ++ rest) (hrest : (rest.map fun v => v.category).sum ≤ 8) (hdg : decode cc pc = .ok (.invokestatic index, 3))
    (kk : ∀ (H1 : Heap) (locs1 : List Loc), va_P D vwCl ws H1 → va_D A ws → va_S A s.heap H1 locs1 → W p l e R s m args below meth c H1 locs1 0 0 Q (F0 m (pc + 3) ls (.int r :: rest))) : W p l e R s m args below meth c H locs 0 0 Q (F0 m pc ls st0) := by
  have hPc : va_P D vwCl [] H := fun k q hk => by simp at hk
  have hDc : va_D A [] := ⟨fun i j p q h => by simp at h, fun k q h => by simp at h⟩
  have hF : ∀ q, va_A [] H.size q → A q := fun q h => by
    rcases h with ⟨k, e, h⟩ | h
    · simp at h
    · exact F.2.2.2.2.2.2.2 q (Nat.le_trans hS.1 h)
  refine va_calli (va_runS (As := As) (rest := rest) ⟨F.1, F.2.1, F.2.2.1, F.2.2.2.1, F.2.2.2.2.1⟩ (hM H.size) ⟨cbOf F Y hw.1 ⟨hroom.1, hroom.2.1⟩, F.2.2.2.2.1 _ hw.2⟩ ⟨pcBlind _ _ _, preOk F hPc hDc⟩ rfl hn hsz.1 hst (lv_room hrest) hdg ⟨hroom.2.2.1, hroom.2.2.2⟩) hS (fun q _ h => hF q h) hF (fun r1 u t H1 locs1 ht hvm hw1 hB hz1 hk1 hS1 => ?_)
  have e1 : r1 = r := hw1
  subst e1
  refine kk H1 locs1 (fun k q hk => ?_) hD hS1
  have hlt := (hP k q hk).lt
  refine (hP k q hk).kept (hk1 q.1 hlt ?_)
  rintro (⟨k2, e2, h⟩ | h)
  · simp at h
  · omega
end CALLS
theorem wd1_0 : (Jvm.Cond.initialized "RankRingsLaw") ∈ wG := wG1 (List.mem_of_getElem? (i := 0) (by decide +kernel)) rfl
theorem wd1_1 : (Jvm.Cond.initialized "RankRings") ∈ wG := wG1 (List.mem_of_getElem? (i := 1) (by decide +kernel)) rfl
theorem wd1_2 : (Jvm.Cond.initialized "RankRings$Field") ∈ wG := wG1 (List.mem_of_getElem? (i := 2) (by decide +kernel)) rfl
theorem wd1_3 : (Jvm.Cond.initialized "RankRings$Text") ∈ wG := wG1 (List.mem_of_getElem? (i := 3) (by decide +kernel)) rfl
theorem wd1_4 : (Jvm.Cond.initialized "java/lang/Integer") ∈ wG := wG1 (List.mem_of_getElem? (i := 4) (by decide +kernel)) rfl
theorem wd1_5 : (Jvm.Cond.initialized "RankRings$Solver") ∈ wG := wG1 (List.mem_of_getElem? (i := 5) (by decide +kernel)) rfl
theorem wd1_6 : (Jvm.Cond.initialized "java/lang/Math") ∈ wG := wG1 (List.mem_of_getElem? (i := 6) (by decide +kernel)) rfl
theorem wd1_7 : (Jvm.Cond.classLink "RankRingsLaw" (25 : Nat) "RankRings") ∈ wG := wG1 (List.mem_of_getElem? (i := 7) (by decide +kernel)) rfl
theorem wd1_8 : (Jvm.Cond.instantiable "RankRings" (11 : Nat)) ∈ wG := wG1 (List.mem_of_getElem? (i := 8) (by decide +kernel)) rfl
theorem wd1_9 : (Jvm.Cond.methodLink "RankRingsLaw" (76 : Nat) ({ cls := "RankRings", name := "<init>", desc := "()V" } : Jvm.MethodName)) ∈ wG := wG1 (List.mem_of_getElem? (i := 9) (by decide +kernel)) rfl
theorem wd1_10 : (Jvm.Cond.instanceMethod ({ cls := "RankRings", name := "<init>", desc := "()V" } : Jvm.MethodName)) ∈ wG := wG1 (List.mem_of_getElem? (i := 10) (by decide +kernel)) rfl
theorem wd1_11 : (Jvm.Cond.code ({ cls := "RankRings", name := "<init>", desc := "()V" } : Jvm.MethodName) prog_1_method_1_code (2 : Nat) (Option.none : Option Jvm.ClassFile.FieldType)) ∈ wG := wG1 (List.mem_of_getElem? (i := 11) rfl) rfl
theorem wd1_12 : (Jvm.Cond.methodLink "RankRings" (1 : Nat) ({ cls := "java/lang/Object", name := "<init>", desc := "()V" } : Jvm.MethodName)) ∈ wG := wG1 (List.mem_of_getElem? (i := 12) (by decide +kernel)) rfl
theorem wd1_13 : (Jvm.Cond.instanceMethod ({ cls := "java/lang/Object", name := "<init>", desc := "()V" } : Jvm.MethodName)) ∈ wG := wG1 (List.mem_of_getElem? (i := 13) (by decide +kernel)) rfl
theorem wd1_14 : (Jvm.Cond.code ({ cls := "java/lang/Object", name := "<init>", desc := "()V" } : Jvm.MethodName) object_method_1_code (1 : Nat) (Option.none : Option Jvm.ClassFile.FieldType)) ∈ wG := wG1 (List.mem_of_getElem? (i := 14) rfl) rfl
theorem wd1_15 : (Jvm.Cond.classLink "RankRings" (7 : Nat) "RankRings$Field") ∈ wG := wG1 (List.mem_of_getElem? (i := 15) (by decide +kernel)) rfl
theorem wd1_16 : (Jvm.Cond.instantiable "RankRings$Field" (4 : Nat)) ∈ wG := wG1 (List.mem_of_getElem? (i := 16) (by decide +kernel)) rfl
theorem wd1_17 : (Jvm.Cond.methodLink "RankRings" (9 : Nat) ({ cls := "RankRings$Field", name := "<init>", desc := "()V" } : Jvm.MethodName)) ∈ wG := wG1 (List.mem_of_getElem? (i := 17) (by decide +kernel)) rfl
theorem wd1_18 : (Jvm.Cond.instanceMethod ({ cls := "RankRings$Field", name := "<init>", desc := "()V" } : Jvm.MethodName)) ∈ wG := wG1 (List.mem_of_getElem? (i := 18) (by decide +kernel)) rfl
theorem wd1_19 : (Jvm.Cond.code ({ cls := "RankRings$Field", name := "<init>", desc := "()V" } : Jvm.MethodName) prog_2_method_1_code (1 : Nat) (Option.none : Option Jvm.ClassFile.FieldType)) ∈ wG := wG1 (List.mem_of_getElem? (i := 19) rfl) rfl
theorem wd1_20 : (Jvm.Cond.methodLink "RankRings$Field" (3 : Nat) ({ cls := "java/lang/Object", name := "<init>", desc := "()V" } : Jvm.MethodName)) ∈ wG := wG1 (List.mem_of_getElem? (i := 20) (by decide +kernel)) rfl
theorem wd1_21 : (Jvm.Cond.fieldLink "RankRings$Field" (9 : Nat) "RankRings$Field" "owners" "[I") ∈ wG := wG1 (List.mem_of_getElem? (i := 21) (by decide +kernel)) rfl
theorem wd1_22 : (Jvm.Cond.fieldLink "RankRings" (58 : Nat) "RankRings$Field" "owners" "[I") ∈ wG := wG1 (List.mem_of_getElem? (i := 22) (by decide +kernel)) rfl
theorem wd1_23 : (Jvm.Cond.fieldLink "RankRings$Solver" (42 : Nat) "RankRings$Field" "owners" "[I") ∈ wG := wG1 (List.mem_of_getElem? (i := 23) (by decide +kernel)) rfl
theorem wd1_24 : (Jvm.Cond.fieldLink "RankRings$Field" (15 : Nat) "RankRings$Field" "ranks" "[I") ∈ wG := wG1 (List.mem_of_getElem? (i := 24) (by decide +kernel)) rfl
theorem wd1_25 : (Jvm.Cond.fieldLink "RankRings" (61 : Nat) "RankRings$Field" "ranks" "[I") ∈ wG := wG1 (List.mem_of_getElem? (i := 25) (by decide +kernel)) rfl
theorem wd1_26 : (Jvm.Cond.fieldLink "RankRings$Field" (18 : Nat) "RankRings$Field" "ways" "[I") ∈ wG := wG1 (List.mem_of_getElem? (i := 26) (by decide +kernel)) rfl
theorem wd1_27 : (Jvm.Cond.fieldLink "RankRings$Solver" (38 : Nat) "RankRings$Field" "ways" "[I") ∈ wG := wG1 (List.mem_of_getElem? (i := 27) (by decide +kernel)) rfl
theorem wd1_28 : (Jvm.Cond.fieldLink "RankRings" (64 : Nat) "RankRings$Field" "ways" "[I") ∈ wG := wG1 (List.mem_of_getElem? (i := 28) (by decide +kernel)) rfl
theorem wd1_29 : (Jvm.Cond.fieldLink "RankRings$Text" (84 : Nat) "RankRings$Field" "ways" "[I") ∈ wG := wG1 (List.mem_of_getElem? (i := 29) (by decide +kernel)) rfl
theorem wd1_30 : (Jvm.Cond.fieldLink "RankRings$Field" (21 : Nat) "RankRings$Field" "size" "I") ∈ wG := wG1 (List.mem_of_getElem? (i := 30) (by decide +kernel)) rfl
theorem wd1_31 : (Jvm.Cond.fieldLink "RankRings" (44 : Nat) "RankRings$Field" "size" "I") ∈ wG := wG1 (List.mem_of_getElem? (i := 31) (by decide +kernel)) rfl
theorem wd1_32 : (Jvm.Cond.fieldLink "RankRings$Text" (39 : Nat) "RankRings$Field" "size" "I") ∈ wG := wG1 (List.mem_of_getElem? (i := 32) (by decide +kernel)) rfl
theorem wd1_33 : (Jvm.Cond.fieldLink "RankRings$Solver" (34 : Nat) "RankRings$Field" "size" "I") ∈ wG := wG1 (List.mem_of_getElem? (i := 33) (by decide +kernel)) rfl
theorem wd1_43 : (Jvm.Cond.arrayClass Jvm.ClassFile.FieldType.int) ∈ wG := wG1 (List.mem_of_getElem? (i := 43) (by decide +kernel)) rfl
theorem wd1_45 : (Jvm.Cond.classLink "RankRings" (23 : Nat) "RankRings$Text") ∈ wG := wG1 (List.mem_of_getElem? (i := 45) (by decide +kernel)) rfl
theorem wd1_46 : (Jvm.Cond.instantiable "RankRings$Text" (9 : Nat)) ∈ wG := wG1 (List.mem_of_getElem? (i := 46) (by decide +kernel)) rfl
theorem wd1_47 : (Jvm.Cond.methodLink "RankRings" (25 : Nat) ({ cls := "RankRings$Text", name := "<init>", desc := "()V" } : Jvm.MethodName)) ∈ wG := wG1 (List.mem_of_getElem? (i := 47) (by decide +kernel)) rfl
theorem wd1_48 : (Jvm.Cond.instanceMethod ({ cls := "RankRings$Text", name := "<init>", desc := "()V" } : Jvm.MethodName)) ∈ wG := wG1 (List.mem_of_getElem? (i := 48) (by decide +kernel)) rfl
theorem wd1_49 : (Jvm.Cond.code ({ cls := "RankRings$Text", name := "<init>", desc := "()V" } : Jvm.MethodName) prog_4_method_1_code (1 : Nat) (Option.none : Option Jvm.ClassFile.FieldType)) ∈ wG := wG1 (List.mem_of_getElem? (i := 49) rfl) rfl
theorem wd1_50 : (Jvm.Cond.methodLink "RankRings$Text" (3 : Nat) ({ cls := "java/lang/Object", name := "<init>", desc := "()V" } : Jvm.MethodName)) ∈ wG := wG1 (List.mem_of_getElem? (i := 50) (by decide +kernel)) rfl
theorem wd1_51 : (Jvm.Cond.classLink "RankRings$Text" (15 : Nat) "RankRings$Field") ∈ wG := wG1 (List.mem_of_getElem? (i := 51) (by decide +kernel)) rfl
theorem wd1_52 : (Jvm.Cond.methodLink "RankRings$Text" (17 : Nat) ({ cls := "RankRings$Field", name := "<init>", desc := "()V" } : Jvm.MethodName)) ∈ wG := wG1 (List.mem_of_getElem? (i := 52) (by decide +kernel)) rfl
theorem wd1_53 : (Jvm.Cond.fieldLink "RankRings$Text" (9 : Nat) "RankRings$Text" "characters" "[C") ∈ wG := wG1 (List.mem_of_getElem? (i := 53) (by decide +kernel)) rfl
theorem wd1_54 : (Jvm.Cond.fieldLink "RankRings$Text" (29 : Nat) "RankRings$Text" "length" "I") ∈ wG := wG1 (List.mem_of_getElem? (i := 54) (by decide +kernel)) rfl
theorem wd1_55 : (Jvm.Cond.fieldLink "RankRings" (109 : Nat) "RankRings$Text" "length" "I") ∈ wG := wG1 (List.mem_of_getElem? (i := 55) (by decide +kernel)) rfl
theorem wd1_56 : (Jvm.Cond.fieldLink "RankRings$Text" (18 : Nat) "RankRings$Text" "told" "LRankRings$Field;") ∈ wG := wG1 (List.mem_of_getElem? (i := 56) (by decide +kernel)) rfl
theorem wd1_57 : (Jvm.Cond.fieldLink "RankRings" (166 : Nat) "RankRings$Text" "told" "LRankRings$Field;") ∈ wG := wG1 (List.mem_of_getElem? (i := 57) (by decide +kernel)) rfl
theorem wd1_58 : (Jvm.Cond.fieldLink "RankRings$Text" (87 : Nat) "RankRings$Text" "faultIndex" "I") ∈ wG := wG1 (List.mem_of_getElem? (i := 58) (by decide +kernel)) rfl
theorem wd1_59 : (Jvm.Cond.fieldLink "RankRings" (160 : Nat) "RankRings$Text" "faultIndex" "I") ∈ wG := wG1 (List.mem_of_getElem? (i := 59) (by decide +kernel)) rfl
theorem wd1_60 : (Jvm.Cond.fieldLink "RankRings$Text" (90 : Nat) "RankRings$Text" "faultReason" "I") ∈ wG := wG1 (List.mem_of_getElem? (i := 60) (by decide +kernel)) rfl
theorem wd1_61 : (Jvm.Cond.fieldLink "RankRings" (163 : Nat) "RankRings$Text" "faultReason" "I") ∈ wG := wG1 (List.mem_of_getElem? (i := 61) (by decide +kernel)) rfl
theorem wd1_62 : (Jvm.Cond.fieldLink "RankRings$Text" (33 : Nat) "RankRings$Text" "at" "I") ∈ wG := wG1 (List.mem_of_getElem? (i := 62) (by decide +kernel)) rfl
theorem wd1_63 : (Jvm.Cond.fieldLink "RankRings$Text" (22 : Nat) "RankRings$Text" "wayNumbers" "[I") ∈ wG := wG1 (List.mem_of_getElem? (i := 63) (by decide +kernel)) rfl
theorem wd1_64 : (Jvm.Cond.fieldLink "RankRings$Text" (26 : Nat) "RankRings$Text" "wayIndexes" "[I") ∈ wG := wG1 (List.mem_of_getElem? (i := 64) (by decide +kernel)) rfl
theorem wd1_65 : (Jvm.Cond.fieldLink "RankRings$Text" (36 : Nat) "RankRings$Text" "wayCount" "I") ∈ wG := wG1 (List.mem_of_getElem? (i := 65) (by decide +kernel)) rfl
theorem wd1_86 : (Jvm.Cond.fieldLink "RankRings" (10 : Nat) "RankRings" "field" "LRankRings$Field;") ∈ wG := wG1 (List.mem_of_getElem? (i := 86) (by decide +kernel)) rfl
theorem wd1_87 : (Jvm.Cond.fieldLink "RankRings" (16 : Nat) "RankRings" "history" "[LRankRings$Field;") ∈ wG := wG1 (List.mem_of_getElem? (i := 87) (by decide +kernel)) rfl
theorem wd1_88 : (Jvm.Cond.fieldLink "RankRings" (106 : Nat) "RankRings" "states" "I") ∈ wG := wG1 (List.mem_of_getElem? (i := 88) (by decide +kernel)) rfl
theorem wd1_89 : (Jvm.Cond.fieldLink "RankRings" (20 : Nat) "RankRings" "snapshot" "LRankRings$Field;") ∈ wG := wG1 (List.mem_of_getElem? (i := 89) (by decide +kernel)) rfl
theorem wd1_90 : (Jvm.Cond.fieldLink "RankRings" (112 : Nat) "RankRings" "isKept" "Z") ∈ wG := wG1 (List.mem_of_getElem? (i := 90) (by decide +kernel)) rfl
theorem wd1_91 : (Jvm.Cond.fieldLink "RankRings" (26 : Nat) "RankRings" "text" "LRankRings$Text;") ∈ wG := wG1 (List.mem_of_getElem? (i := 91) (by decide +kernel)) rfl
theorem wd1_92 : (Jvm.Cond.fieldLink "RankRings" (30 : Nat) "RankRings" "trial" "LRankRings$Field;") ∈ wG := wG1 (List.mem_of_getElem? (i := 92) (by decide +kernel)) rfl
theorem wd1_93 : (Jvm.Cond.fieldLink "RankRings" (172 : Nat) "RankRings" "winnersKnown" "Z") ∈ wG := wG1 (List.mem_of_getElem? (i := 93) (by decide +kernel)) rfl
theorem wd1_94 : (Jvm.Cond.fieldLink "RankRings" (178 : Nat) "RankRings" "winsOf0" "I") ∈ wG := wG1 (List.mem_of_getElem? (i := 94) (by decide +kernel)) rfl
theorem wd1_95 : (Jvm.Cond.fieldLink "RankRings" (175 : Nat) "RankRings" "choicesKnown" "Z") ∈ wG := wG1 (List.mem_of_getElem? (i := 95) (by decide +kernel)) rfl
theorem wd1_96 : (Jvm.Cond.fieldLink "RankRings" (33 : Nat) "RankRings" "choices" "[I") ∈ wG := wG1 (List.mem_of_getElem? (i := 96) (by decide +kernel)) rfl
theorem wd1_120 : (Jvm.Cond.methodLink "RankRingsLaw" (63 : Nat) ({ cls := "RankRings", name := "placeOf", desc := "(II)I" } : Jvm.MethodName)) ∈ wG := wG1 (List.mem_of_getElem? (i := 120) (by decide +kernel)) rfl
theorem wd1_121 : (Jvm.Cond.instanceMethod ({ cls := "RankRings", name := "placeOf", desc := "(II)I" } : Jvm.MethodName)) ∈ wG := wG1 (List.mem_of_getElem? (i := 121) (by decide +kernel)) rfl
theorem wd1_122 : (Jvm.Cond.selects "RankRings" ({ cls := "RankRings", name := "placeOf", desc := "(II)I" } : Jvm.MethodName) ({ cls := "RankRings", name := "placeOf", desc := "(II)I" } : Jvm.MethodName)) ∈ wG := wG1 (List.mem_of_getElem? (i := 122) (by decide +kernel)) rfl
theorem wd1_123 : (Jvm.Cond.code ({ cls := "RankRings", name := "placeOf", desc := "(II)I" } : Jvm.MethodName) prog_1_method_7_code (3 : Nat) (Option.some Jvm.ClassFile.FieldType.int)) ∈ wG := wG1 (List.mem_of_getElem? (i := 123) rfl) rfl
theorem wd1_124 : (Jvm.Cond.methodLink "RankRings" (55 : Nat) ({ cls := "RankRings$Field", name := "has", desc := "(I)Z" } : Jvm.MethodName)) ∈ wG := wG1 (List.mem_of_getElem? (i := 124) (by decide +kernel)) rfl
theorem wd1_125 : (Jvm.Cond.instanceMethod ({ cls := "RankRings$Field", name := "has", desc := "(I)Z" } : Jvm.MethodName)) ∈ wG := wG1 (List.mem_of_getElem? (i := 125) (by decide +kernel)) rfl
theorem wd1_126 : (Jvm.Cond.selects "RankRings$Field" ({ cls := "RankRings$Field", name := "has", desc := "(I)Z" } : Jvm.MethodName) ({ cls := "RankRings$Field", name := "has", desc := "(I)Z" } : Jvm.MethodName)) ∈ wG := wG1 (List.mem_of_getElem? (i := 126) (by decide +kernel)) rfl
theorem wd1_127 : (Jvm.Cond.code ({ cls := "RankRings$Field", name := "has", desc := "(I)Z" } : Jvm.MethodName) prog_2_method_2_code (2 : Nat) (Option.some Jvm.ClassFile.FieldType.boolean)) ∈ wG := wG1 (List.mem_of_getElem? (i := 127) rfl) rfl
theorem wd1_128 : (Jvm.Cond.methodLink "RankRings" (81 : Nat) ({ cls := "RankRings$Field", name := "waysTo", desc := "(I)I" } : Jvm.MethodName)) ∈ wG := wG1 (List.mem_of_getElem? (i := 128) (by decide +kernel)) rfl
theorem wd1_129 : (Jvm.Cond.instanceMethod ({ cls := "RankRings$Field", name := "waysTo", desc := "(I)I" } : Jvm.MethodName)) ∈ wG := wG1 (List.mem_of_getElem? (i := 129) (by decide +kernel)) rfl
theorem wd1_130 : (Jvm.Cond.selects "RankRings$Field" ({ cls := "RankRings$Field", name := "waysTo", desc := "(I)I" } : Jvm.MethodName) ({ cls := "RankRings$Field", name := "waysTo", desc := "(I)I" } : Jvm.MethodName)) ∈ wG := wG1 (List.mem_of_getElem? (i := 130) (by decide +kernel)) rfl
theorem wd1_131 : (Jvm.Cond.code ({ cls := "RankRings$Field", name := "waysTo", desc := "(I)I" } : Jvm.MethodName) prog_2_method_5_code (4 : Nat) (Option.some Jvm.ClassFile.FieldType.int)) ∈ wG := wG1 (List.mem_of_getElem? (i := 131) rfl) rfl
theorem wd1_133 : (Jvm.Cond.static ({ cls := "RankRings", name := "contains", desc := "(II)Z" } : Jvm.MethodName)) ∈ wG := wG1 (List.mem_of_getElem? (i := 133) (by decide +kernel)) rfl
theorem wd1_134 : (Jvm.Cond.code ({ cls := "RankRings", name := "contains", desc := "(II)Z" } : Jvm.MethodName) prog_1_method_26_code (2 : Nat) (Option.some Jvm.ClassFile.FieldType.boolean)) ∈ wG := wG1 (List.mem_of_getElem? (i := 134) rfl) rfl
theorem wd1_135 : (Jvm.Cond.methodLink "RankRings" (84 : Nat) ({ cls := "RankRings", name := "findWinners", desc := "()V" } : Jvm.MethodName)) ∈ wG := wG1 (List.mem_of_getElem? (i := 135) (by decide +kernel)) rfl
theorem wd1_137 : (Jvm.Cond.instanceMethod ({ cls := "RankRings", name := "findWinners", desc := "()V" } : Jvm.MethodName)) ∈ wG := wG1 (List.mem_of_getElem? (i := 137) (by decide +kernel)) rfl
theorem wd1_138 : (Jvm.Cond.code ({ cls := "RankRings", name := "findWinners", desc := "()V" } : Jvm.MethodName) prog_1_method_30_code (1 : Nat) (Option.none : Option Jvm.ClassFile.FieldType)) ∈ wG := wG1 (List.mem_of_getElem? (i := 138) rfl) rfl
theorem wd1_139 : (Jvm.Cond.methodLink "RankRings" (142 : Nat) ({ cls := "RankRings$Solver", name := "winsOf0", desc := "(LRankRings$Field;)I" } : Jvm.MethodName)) ∈ wG := wG1 (List.mem_of_getElem? (i := 139) (by decide +kernel)) rfl
theorem wd1_140 : (Jvm.Cond.static ({ cls := "RankRings$Solver", name := "winsOf0", desc := "(LRankRings$Field;)I" } : Jvm.MethodName)) ∈ wG := wG1 (List.mem_of_getElem? (i := 140) (by decide +kernel)) rfl
theorem wd1_141 : (Jvm.Cond.code ({ cls := "RankRings$Solver", name := "winsOf0", desc := "(LRankRings$Field;)I" } : Jvm.MethodName) prog_3_method_2_code (4 : Nat) (Option.some Jvm.ClassFile.FieldType.int)) ∈ wG := wG1 (List.mem_of_getElem? (i := 141) rfl) rfl
theorem wd1_142 : (Jvm.Cond.methodLink "RankRings$Solver" (9 : Nat) ({ cls := "RankRings$Field", name := "all", desc := "()I" } : Jvm.MethodName)) ∈ wG := wG1 (List.mem_of_getElem? (i := 142) (by decide +kernel)) rfl
theorem wd1_143 : (Jvm.Cond.instanceMethod ({ cls := "RankRings$Field", name := "all", desc := "()I" } : Jvm.MethodName)) ∈ wG := wG1 (List.mem_of_getElem? (i := 143) (by decide +kernel)) rfl
theorem wd1_144 : (Jvm.Cond.selects "RankRings$Field" ({ cls := "RankRings$Field", name := "all", desc := "()I" } : Jvm.MethodName) ({ cls := "RankRings$Field", name := "all", desc := "()I" } : Jvm.MethodName)) ∈ wG := wG1 (List.mem_of_getElem? (i := 144) (by decide +kernel)) rfl
theorem wd1_145 : (Jvm.Cond.code ({ cls := "RankRings$Field", name := "all", desc := "()I" } : Jvm.MethodName) prog_2_method_4_code (1 : Nat) (Option.some Jvm.ClassFile.FieldType.int)) ∈ wG := wG1 (List.mem_of_getElem? (i := 145) rfl) rfl
theorem wd1_146 : (Jvm.Cond.methodLink "RankRings$Solver" (15 : Nat) ({ cls := "RankRings$Field", name := "endsOf", desc := "(I)I" } : Jvm.MethodName)) ∈ wG := wG1 (List.mem_of_getElem? (i := 146) (by decide +kernel)) rfl
theorem wd1_147 : (Jvm.Cond.instanceMethod ({ cls := "RankRings$Field", name := "endsOf", desc := "(I)I" } : Jvm.MethodName)) ∈ wG := wG1 (List.mem_of_getElem? (i := 147) (by decide +kernel)) rfl
theorem wd1_148 : (Jvm.Cond.selects "RankRings$Field" ({ cls := "RankRings$Field", name := "endsOf", desc := "(I)I" } : Jvm.MethodName) ({ cls := "RankRings$Field", name := "endsOf", desc := "(I)I" } : Jvm.MethodName)) ∈ wG := wG1 (List.mem_of_getElem? (i := 148) (by decide +kernel)) rfl
theorem wd1_149 : (Jvm.Cond.code ({ cls := "RankRings$Field", name := "endsOf", desc := "(I)I" } : Jvm.MethodName) prog_2_method_8_code (4 : Nat) (Option.some Jvm.ClassFile.FieldType.int)) ∈ wG := wG1 (List.mem_of_getElem? (i := 149) rfl) rfl
theorem wd1_150 : (Jvm.Cond.methodLink "RankRings$Solver" (19 : Nat) ({ cls := "RankRings$Solver", name := "pull", desc := "(LRankRings$Field;III)I" } : Jvm.MethodName)) ∈ wG := wG1 (List.mem_of_getElem? (i := 150) (by decide +kernel)) rfl
theorem wd1_151 : (Jvm.Cond.static ({ cls := "RankRings$Solver", name := "pull", desc := "(LRankRings$Field;III)I" } : Jvm.MethodName)) ∈ wG := wG1 (List.mem_of_getElem? (i := 151) (by decide +kernel)) rfl
theorem wd1_152 : (Jvm.Cond.code ({ cls := "RankRings$Solver", name := "pull", desc := "(LRankRings$Field;III)I" } : Jvm.MethodName) prog_3_method_4_code (7 : Nat) (Option.some Jvm.ClassFile.FieldType.int)) ∈ wG := wG1 (List.mem_of_getElem? (i := 152) rfl) rfl
theorem wd1_153 : (Jvm.Cond.methodLink "RankRings$Solver" (31 : Nat) ({ cls := "RankRings$Solver", name := "pullOnce", desc := "(LRankRings$Field;III)I" } : Jvm.MethodName)) ∈ wG := wG1 (List.mem_of_getElem? (i := 153) (by decide +kernel)) rfl
theorem wd1_154 : (Jvm.Cond.static ({ cls := "RankRings$Solver", name := "pullOnce", desc := "(LRankRings$Field;III)I" } : Jvm.MethodName)) ∈ wG := wG1 (List.mem_of_getElem? (i := 154) (by decide +kernel)) rfl
theorem wd1_155 : (Jvm.Cond.code ({ cls := "RankRings$Solver", name := "pullOnce", desc := "(LRankRings$Field;III)I" } : Jvm.MethodName) prog_3_method_5_code (8 : Nat) (Option.some Jvm.ClassFile.FieldType.int)) ∈ wG := wG1 (List.mem_of_getElem? (i := 155) rfl) rfl
theorem wd1_156 : (Jvm.Cond.methodLink "RankRings$Solver" (25 : Nat) ({ cls := "RankRings$Solver", name := "winsWithin", desc := "(LRankRings$Field;III)I" } : Jvm.MethodName)) ∈ wG := wG1 (List.mem_of_getElem? (i := 156) (by decide +kernel)) rfl
theorem wd1_157 : (Jvm.Cond.static ({ cls := "RankRings$Solver", name := "winsWithin", desc := "(LRankRings$Field;III)I" } : Jvm.MethodName)) ∈ wG := wG1 (List.mem_of_getElem? (i := 157) (by decide +kernel)) rfl
theorem wd1_158 : (Jvm.Cond.code ({ cls := "RankRings$Solver", name := "winsWithin", desc := "(LRankRings$Field;III)I" } : Jvm.MethodName) prog_3_method_3_code (11 : Nat) (Option.some Jvm.ClassFile.FieldType.int)) ∈ wG := wG1 (List.mem_of_getElem? (i := 158) rfl) rfl
theorem wd1_159 : (Jvm.Cond.methodLink "RankRings$Solver" (28 : Nat) ({ cls := "RankRings$Field", name := "ranked", desc := "(I)I" } : Jvm.MethodName)) ∈ wG := wG1 (List.mem_of_getElem? (i := 159) (by decide +kernel)) rfl
theorem wd1_160 : (Jvm.Cond.instanceMethod ({ cls := "RankRings$Field", name := "ranked", desc := "(I)I" } : Jvm.MethodName)) ∈ wG := wG1 (List.mem_of_getElem? (i := 160) (by decide +kernel)) rfl
theorem wd1_161 : (Jvm.Cond.selects "RankRings$Field" ({ cls := "RankRings$Field", name := "ranked", desc := "(I)I" } : Jvm.MethodName) ({ cls := "RankRings$Field", name := "ranked", desc := "(I)I" } : Jvm.MethodName)) ∈ wG := wG1 (List.mem_of_getElem? (i := 161) (by decide +kernel)) rfl
theorem wd1_162 : (Jvm.Cond.code ({ cls := "RankRings$Field", name := "ranked", desc := "(I)I" } : Jvm.MethodName) prog_2_method_9_code (4 : Nat) (Option.some Jvm.ClassFile.FieldType.int)) ∈ wG := wG1 (List.mem_of_getElem? (i := 162) rfl) rfl
theorem wd1_163 : (Jvm.Cond.methodLink "RankRings" (87 : Nat) ({ cls := "RankRings", name := "winnerFrom", desc := "(I)I" } : Jvm.MethodName)) ∈ wG := wG1 (List.mem_of_getElem? (i := 163) (by decide +kernel)) rfl
theorem wd1_165 : (Jvm.Cond.instanceMethod ({ cls := "RankRings", name := "winnerFrom", desc := "(I)I" } : Jvm.MethodName)) ∈ wG := wG1 (List.mem_of_getElem? (i := 165) (by decide +kernel)) rfl
theorem wd1_166 : (Jvm.Cond.code ({ cls := "RankRings", name := "winnerFrom", desc := "(I)I" } : Jvm.MethodName) prog_1_method_32_code (2 : Nat) (Option.some Jvm.ClassFile.FieldType.int)) ∈ wG := wG1 (List.mem_of_getElem? (i := 166) rfl) rfl
theorem wd1_167 : (Jvm.Cond.methodLink "RankRings" (67 : Nat) ({ cls := "RankRings", name := "contains", desc := "(II)Z" } : Jvm.MethodName)) ∈ wG := wG1 (List.mem_of_getElem? (i := 167) (by decide +kernel)) rfl
theorem wd1_168 : (Jvm.Cond.methodLink "RankRings" (90 : Nat) ({ cls := "RankRings", name := "findChoices", desc := "()V" } : Jvm.MethodName)) ∈ wG := wG1 (List.mem_of_getElem? (i := 168) (by decide +kernel)) rfl
theorem wd1_170 : (Jvm.Cond.instanceMethod ({ cls := "RankRings", name := "findChoices", desc := "()V" } : Jvm.MethodName)) ∈ wG := wG1 (List.mem_of_getElem? (i := 170) (by decide +kernel)) rfl
theorem wd1_171 : (Jvm.Cond.code ({ cls := "RankRings", name := "findChoices", desc := "()V" } : Jvm.MethodName) prog_1_method_33_code (3 : Nat) (Option.none : Option Jvm.ClassFile.FieldType)) ∈ wG := wG1 (List.mem_of_getElem? (i := 171) rfl) rfl
theorem wd1_172 : (Jvm.Cond.methodLink "RankRings" (138 : Nat) ({ cls := "RankRings$Field", name := "copyFrom", desc := "(LRankRings$Field;)V" } : Jvm.MethodName)) ∈ wG := wG1 (List.mem_of_getElem? (i := 172) (by decide +kernel)) rfl
theorem wd1_173 : (Jvm.Cond.instanceMethod ({ cls := "RankRings$Field", name := "copyFrom", desc := "(LRankRings$Field;)V" } : Jvm.MethodName)) ∈ wG := wG1 (List.mem_of_getElem? (i := 173) (by decide +kernel)) rfl
theorem wd1_174 : (Jvm.Cond.selects "RankRings$Field" ({ cls := "RankRings$Field", name := "copyFrom", desc := "(LRankRings$Field;)V" } : Jvm.MethodName) ({ cls := "RankRings$Field", name := "copyFrom", desc := "(LRankRings$Field;)V" } : Jvm.MethodName)) ∈ wG := wG1 (List.mem_of_getElem? (i := 174) (by decide +kernel)) rfl
theorem wd1_175 : (Jvm.Cond.code ({ cls := "RankRings$Field", name := "copyFrom", desc := "(LRankRings$Field;)V" } : Jvm.MethodName) prog_2_method_12_code (3 : Nat) (Option.none : Option Jvm.ClassFile.FieldType)) ∈ wG := wG1 (List.mem_of_getElem? (i := 175) rfl) rfl
theorem wd1_176 : (Jvm.Cond.methodLink "RankRings" (180 : Nat) ({ cls := "RankRings", name := "settle", desc := "(I)I" } : Jvm.MethodName)) ∈ wG := wG1 (List.mem_of_getElem? (i := 176) (by decide +kernel)) rfl
theorem wd1_178 : (Jvm.Cond.instanceMethod ({ cls := "RankRings", name := "settle", desc := "(I)I" } : Jvm.MethodName)) ∈ wG := wG1 (List.mem_of_getElem? (i := 178) (by decide +kernel)) rfl
theorem wd1_179 : (Jvm.Cond.code ({ cls := "RankRings", name := "settle", desc := "(I)I" } : Jvm.MethodName) prog_1_method_34_code (4 : Nat) (Option.some Jvm.ClassFile.FieldType.int)) ∈ wG := wG1 (List.mem_of_getElem? (i := 179) rfl) rfl
theorem wd1_180 : (Jvm.Cond.methodLink "RankRings" (97 : Nat) ({ cls := "RankRings", name := "winsOf", desc := "(I)I" } : Jvm.MethodName)) ∈ wG := wG1 (List.mem_of_getElem? (i := 180) (by decide +kernel)) rfl
theorem wd1_182 : (Jvm.Cond.instanceMethod ({ cls := "RankRings", name := "winsOf", desc := "(I)I" } : Jvm.MethodName)) ∈ wG := wG1 (List.mem_of_getElem? (i := 182) (by decide +kernel)) rfl
theorem wd1_183 : (Jvm.Cond.code ({ cls := "RankRings", name := "winsOf", desc := "(I)I" } : Jvm.MethodName) prog_1_method_31_code (2 : Nat) (Option.some Jvm.ClassFile.FieldType.int)) ∈ wG := wG1 (List.mem_of_getElem? (i := 183) rfl) rfl
theorem wd1_184 : (Jvm.Cond.methodLink "RankRings" (119 : Nat) ({ cls := "RankRings$Field", name := "all", desc := "()I" } : Jvm.MethodName)) ∈ wG := wG1 (List.mem_of_getElem? (i := 184) (by decide +kernel)) rfl
theorem wd1_185 : (Jvm.Cond.methodLink "RankRings" (183 : Nat) ({ cls := "java/lang/Integer", name := "numberOfTrailingZeros", desc := "(I)I" } : Jvm.MethodName)) ∈ wG := wG1 (List.mem_of_getElem? (i := 185) (by decide +kernel)) rfl
theorem wd1_186 : (Jvm.Cond.static ({ cls := "java/lang/Integer", name := "numberOfTrailingZeros", desc := "(I)I" } : Jvm.MethodName)) ∈ wG := wG1 (List.mem_of_getElem? (i := 186) (by decide +kernel)) rfl
theorem wd1_187 : (Jvm.Cond.code ({ cls := "java/lang/Integer", name := "numberOfTrailingZeros", desc := "(I)I" } : Jvm.MethodName) prog_7_method_48_code (2 : Nat) (Option.some Jvm.ClassFile.FieldType.int)) ∈ wG := wG1 (List.mem_of_getElem? (i := 187) rfl) rfl
theorem wd1_188 : (Jvm.Cond.constant "java/lang/Integer" (264 : Nat) (65536 : Int32)) ∈ wG := wG1 (List.mem_of_getElem? (i := 188) (by decide +kernel)) rfl
theorem wd1_189 : (Jvm.Cond.methodLink "RankRingsLaw" (70 : Nat) ({ cls := "RankRings", name := "count", desc := "(I)I" } : Jvm.MethodName)) ∈ wG := wG1 (List.mem_of_getElem? (i := 189) (by decide +kernel)) rfl
theorem wd1_190 : (Jvm.Cond.instanceMethod ({ cls := "RankRings", name := "count", desc := "(I)I" } : Jvm.MethodName)) ∈ wG := wG1 (List.mem_of_getElem? (i := 190) (by decide +kernel)) rfl
theorem wd1_191 : (Jvm.Cond.selects "RankRings" ({ cls := "RankRings", name := "count", desc := "(I)I" } : Jvm.MethodName) ({ cls := "RankRings", name := "count", desc := "(I)I" } : Jvm.MethodName)) ∈ wG := wG1 (List.mem_of_getElem? (i := 191) (by decide +kernel)) rfl
theorem wd1_192 : (Jvm.Cond.code ({ cls := "RankRings", name := "count", desc := "(I)I" } : Jvm.MethodName) prog_1_method_8_code (2 : Nat) (Option.some Jvm.ClassFile.FieldType.int)) ∈ wG := wG1 (List.mem_of_getElem? (i := 192) rfl) rfl
theorem wd1_193 : (Jvm.Cond.methodLink "RankRings" (93 : Nat) ({ cls := "RankRings$Field", name := "numberOfWays", desc := "()I" } : Jvm.MethodName)) ∈ wG := wG1 (List.mem_of_getElem? (i := 193) (by decide +kernel)) rfl
theorem wd1_194 : (Jvm.Cond.instanceMethod ({ cls := "RankRings$Field", name := "numberOfWays", desc := "()I" } : Jvm.MethodName)) ∈ wG := wG1 (List.mem_of_getElem? (i := 194) (by decide +kernel)) rfl
theorem wd1_195 : (Jvm.Cond.selects "RankRings$Field" ({ cls := "RankRings$Field", name := "numberOfWays", desc := "()I" } : Jvm.MethodName) ({ cls := "RankRings$Field", name := "numberOfWays", desc := "()I" } : Jvm.MethodName)) ∈ wG := wG1 (List.mem_of_getElem? (i := 195) (by decide +kernel)) rfl
theorem wd1_196 : (Jvm.Cond.code ({ cls := "RankRings$Field", name := "numberOfWays", desc := "()I" } : Jvm.MethodName) prog_2_method_6_code (3 : Nat) (Option.some Jvm.ClassFile.FieldType.int)) ∈ wG := wG1 (List.mem_of_getElem? (i := 196) rfl) rfl
theorem wd1_197 : (Jvm.Cond.methodLink "RankRings$Field" (33 : Nat) ({ cls := "java/lang/Integer", name := "bitCount", desc := "(I)I" } : Jvm.MethodName)) ∈ wG := wG1 (List.mem_of_getElem? (i := 197) (by decide +kernel)) rfl
theorem wd1_198 : (Jvm.Cond.static ({ cls := "java/lang/Integer", name := "bitCount", desc := "(I)I" } : Jvm.MethodName)) ∈ wG := wG1 (List.mem_of_getElem? (i := 198) (by decide +kernel)) rfl
theorem wd1_199 : (Jvm.Cond.code ({ cls := "java/lang/Integer", name := "bitCount", desc := "(I)I" } : Jvm.MethodName) prog_7_method_49_code (1 : Nat) (Option.some Jvm.ClassFile.FieldType.int)) ∈ wG := wG1 (List.mem_of_getElem? (i := 199) rfl) rfl
theorem wd1_200 : (Jvm.Cond.constant "java/lang/Integer" (265 : Nat) (1431655765 : Int32)) ∈ wG := wG1 (List.mem_of_getElem? (i := 200) (by decide +kernel)) rfl
theorem wd1_201 : (Jvm.Cond.constant "java/lang/Integer" (266 : Nat) (858993459 : Int32)) ∈ wG := wG1 (List.mem_of_getElem? (i := 201) (by decide +kernel)) rfl
theorem wd1_202 : (Jvm.Cond.constant "java/lang/Integer" (267 : Nat) (252645135 : Int32)) ∈ wG := wG1 (List.mem_of_getElem? (i := 202) (by decide +kernel)) rfl
theorem wd1_203 : (Jvm.Cond.methodLink "RankRings" (100 : Nat) ({ cls := "RankRings$Field", name := "endsOf", desc := "(I)I" } : Jvm.MethodName)) ∈ wG := wG1 (List.mem_of_getElem? (i := 203) (by decide +kernel)) rfl
theorem wd1_204 : (Jvm.Cond.methodLink "RankRings" (103 : Nat) ({ cls := "RankRings$Field", name := "greatestRank", desc := "()I" } : Jvm.MethodName)) ∈ wG := wG1 (List.mem_of_getElem? (i := 204) (by decide +kernel)) rfl
theorem wd1_205 : (Jvm.Cond.instanceMethod ({ cls := "RankRings$Field", name := "greatestRank", desc := "()I" } : Jvm.MethodName)) ∈ wG := wG1 (List.mem_of_getElem? (i := 205) (by decide +kernel)) rfl
theorem wd1_206 : (Jvm.Cond.selects "RankRings$Field" ({ cls := "RankRings$Field", name := "greatestRank", desc := "()I" } : Jvm.MethodName) ({ cls := "RankRings$Field", name := "greatestRank", desc := "()I" } : Jvm.MethodName)) ∈ wG := wG1 (List.mem_of_getElem? (i := 206) (by decide +kernel)) rfl
theorem wd1_207 : (Jvm.Cond.code ({ cls := "RankRings$Field", name := "greatestRank", desc := "()I" } : Jvm.MethodName) prog_2_method_7_code (3 : Nat) (Option.some Jvm.ClassFile.FieldType.int)) ∈ wG := wG1 (List.mem_of_getElem? (i := 207) rfl) rfl
theorem wd1_208 : (Jvm.Cond.methodLink "RankRings$Field" (39 : Nat) ({ cls := "java/lang/Math", name := "max", desc := "(II)I" } : Jvm.MethodName)) ∈ wG := wG1 (List.mem_of_getElem? (i := 208) (by decide +kernel)) rfl
theorem wd1_209 : (Jvm.Cond.static ({ cls := "java/lang/Math", name := "max", desc := "(II)I" } : Jvm.MethodName)) ∈ wG := wG1 (List.mem_of_getElem? (i := 209) (by decide +kernel)) rfl
theorem wd1_210 : (Jvm.Cond.code ({ cls := "java/lang/Math", name := "max", desc := "(II)I" } : Jvm.MethodName) prog_8_method_65_code (2 : Nat) (Option.some Jvm.ClassFile.FieldType.int)) ∈ wG := wG1 (List.mem_of_getElem? (i := 210) rfl) rfl
theorem wd1_211 : (Jvm.Cond.methodLink "RankRingsLaw" (77 : Nat) ({ cls := "RankRingsLaw", name := "cell", desc := "([II)I" } : Jvm.MethodName)) ∈ wG := wG1 (List.mem_of_getElem? (i := 211) (by decide +kernel)) rfl
theorem wd1_212 : (Jvm.Cond.static ({ cls := "RankRingsLaw", name := "cell", desc := "([II)I" } : Jvm.MethodName)) ∈ wG := wG1 (List.mem_of_getElem? (i := 212) (by decide +kernel)) rfl
theorem wd1_213 : (Jvm.Cond.code ({ cls := "RankRingsLaw", name := "cell", desc := "([II)I" } : Jvm.MethodName) method_2_code (2 : Nat) (Option.some Jvm.ClassFile.FieldType.int)) ∈ wG := wG1 (List.mem_of_getElem? (i := 213) rfl) rfl
theorem wd1_214 : (Jvm.Cond.constant "RankRingsLaw" (7 : Nat) (40503 : Int32)) ∈ wG := wG1 (List.mem_of_getElem? (i := 214) (by decide +kernel)) rfl
theorem wd1_215 : (Jvm.Cond.methodLink "RankRingsLaw" (20 : Nat) ({ cls := "RankRingsLaw", name := "low", desc := "(II)I" } : Jvm.MethodName)) ∈ wG := wG1 (List.mem_of_getElem? (i := 215) (by decide +kernel)) rfl
theorem wd1_216 : (Jvm.Cond.static ({ cls := "RankRingsLaw", name := "low", desc := "(II)I" } : Jvm.MethodName)) ∈ wG := wG1 (List.mem_of_getElem? (i := 216) (by decide +kernel)) rfl
theorem wd1_217 : (Jvm.Cond.code ({ cls := "RankRingsLaw", name := "low", desc := "(II)I" } : Jvm.MethodName) method_3_code (2 : Nat) (Option.some Jvm.ClassFile.FieldType.int)) ∈ wG := wG1 (List.mem_of_getElem? (i := 217) rfl) rfl
theorem wd1_218 : (Jvm.Cond.constant "RankRingsLaw" (8 : Nat) (2147483647 : Int32)) ∈ wG := wG1 (List.mem_of_getElem? (i := 218) (by decide +kernel)) rfl
theorem wd1_219 : (Jvm.Cond.methodLink "RankRingsLaw" (81 : Nat) ({ cls := "RankRingsLaw", name := "acts", desc := "(LRankRings;[I[I[I[II)Z" } : Jvm.MethodName)) ∈ wG := wG1 (List.mem_of_getElem? (i := 219) (by decide +kernel)) rfl
theorem wd1_220 : (Jvm.Cond.static ({ cls := "RankRingsLaw", name := "acts", desc := "(LRankRings;[I[I[I[II)Z" } : Jvm.MethodName)) ∈ wG := wG1 (List.mem_of_getElem? (i := 220) (by decide +kernel)) rfl
theorem wd1_221 : (Jvm.Cond.code ({ cls := "RankRingsLaw", name := "acts", desc := "(LRankRings;[I[I[I[II)Z" } : Jvm.MethodName) method_8_code (12 : Nat) (Option.some Jvm.ClassFile.FieldType.boolean)) ∈ wG := wG1 (List.mem_of_getElem? (i := 221) rfl) rfl
theorem wd1_222 : (Jvm.Cond.constant "RankRingsLaw" (19 : Nat) (10000000 : Int32)) ∈ wG := wG1 (List.mem_of_getElem? (i := 222) (by decide +kernel)) rfl
theorem wd1_223 : (Jvm.Cond.methodLink "RankRingsLaw" (24 : Nat) ({ cls := "RankRings", name := "add", desc := "(II)I" } : Jvm.MethodName)) ∈ wG := wG1 (List.mem_of_getElem? (i := 223) (by decide +kernel)) rfl
theorem wd1_224 : (Jvm.Cond.instanceMethod ({ cls := "RankRings", name := "add", desc := "(II)I" } : Jvm.MethodName)) ∈ wG := wG1 (List.mem_of_getElem? (i := 224) (by decide +kernel)) rfl
theorem wd1_225 : (Jvm.Cond.selects "RankRings" ({ cls := "RankRings", name := "add", desc := "(II)I" } : Jvm.MethodName) ({ cls := "RankRings", name := "add", desc := "(II)I" } : Jvm.MethodName)) ∈ wG := wG1 (List.mem_of_getElem? (i := 225) (by decide +kernel)) rfl
theorem wd1_226 : (Jvm.Cond.code ({ cls := "RankRings", name := "add", desc := "(II)I" } : Jvm.MethodName) prog_1_method_2_code (3 : Nat) (Option.some Jvm.ClassFile.FieldType.int)) ∈ wG := wG1 (List.mem_of_getElem? (i := 226) rfl) rfl
theorem wd1_227 : (Jvm.Cond.methodLink "RankRings" (37 : Nat) ({ cls := "RankRings", name := "isPlayer", desc := "(I)Z" } : Jvm.MethodName)) ∈ wG := wG1 (List.mem_of_getElem? (i := 227) (by decide +kernel)) rfl
theorem wd1_228 : (Jvm.Cond.static ({ cls := "RankRings", name := "isPlayer", desc := "(I)Z" } : Jvm.MethodName)) ∈ wG := wG1 (List.mem_of_getElem? (i := 228) (by decide +kernel)) rfl
theorem wd1_229 : (Jvm.Cond.code ({ cls := "RankRings", name := "isPlayer", desc := "(I)Z" } : Jvm.MethodName) prog_1_method_24_code (1 : Nat) (Option.some Jvm.ClassFile.FieldType.boolean)) ∈ wG := wG1 (List.mem_of_getElem? (i := 229) rfl) rfl
theorem wd1_230 : (Jvm.Cond.methodLink "RankRings" (41 : Nat) ({ cls := "RankRings", name := "isRank", desc := "(I)Z" } : Jvm.MethodName)) ∈ wG := wG1 (List.mem_of_getElem? (i := 230) (by decide +kernel)) rfl
theorem wd1_231 : (Jvm.Cond.static ({ cls := "RankRings", name := "isRank", desc := "(I)Z" } : Jvm.MethodName)) ∈ wG := wG1 (List.mem_of_getElem? (i := 231) (by decide +kernel)) rfl
theorem wd1_232 : (Jvm.Cond.code ({ cls := "RankRings", name := "isRank", desc := "(I)Z" } : Jvm.MethodName) prog_1_method_25_code (1 : Nat) (Option.some Jvm.ClassFile.FieldType.boolean)) ∈ wG := wG1 (List.mem_of_getElem? (i := 232) rfl) rfl
theorem wd1_233 : (Jvm.Cond.methodLink "RankRings" (48 : Nat) ({ cls := "RankRings", name := "recordState", desc := "()V" } : Jvm.MethodName)) ∈ wG := wG1 (List.mem_of_getElem? (i := 233) (by decide +kernel)) rfl
theorem wd1_235 : (Jvm.Cond.instanceMethod ({ cls := "RankRings", name := "recordState", desc := "()V" } : Jvm.MethodName)) ∈ wG := wG1 (List.mem_of_getElem? (i := 235) (by decide +kernel)) rfl
theorem wd1_236 : (Jvm.Cond.code ({ cls := "RankRings", name := "recordState", desc := "()V" } : Jvm.MethodName) prog_1_method_27_code (1 : Nat) (Option.none : Option Jvm.ClassFile.FieldType)) ∈ wG := wG1 (List.mem_of_getElem? (i := 236) rfl) rfl
theorem wd1_237 : (Jvm.Cond.methodLink "RankRings" (169 : Nat) ({ cls := "RankRings", name := "dropOldestState", desc := "()V" } : Jvm.MethodName)) ∈ wG := wG1 (List.mem_of_getElem? (i := 237) (by decide +kernel)) rfl
theorem wd1_239 : (Jvm.Cond.instanceMethod ({ cls := "RankRings", name := "dropOldestState", desc := "()V" } : Jvm.MethodName)) ∈ wG := wG1 (List.mem_of_getElem? (i := 239) (by decide +kernel)) rfl
theorem wd2_0 : (Jvm.Cond.code ({ cls := "RankRings", name := "dropOldestState", desc := "()V" } : Jvm.MethodName) prog_1_method_28_code (3 : Nat) (Option.none : Option Jvm.ClassFile.FieldType)) ∈ wG := wG2 (List.mem_of_getElem? (i := 0) rfl) rfl
theorem wd2_1 : (Jvm.Cond.methodLink "RankRings" (150 : Nat) ({ cls := "RankRings", name := "forgetFindings", desc := "()V" } : Jvm.MethodName)) ∈ wG := wG2 (List.mem_of_getElem? (i := 1) (by decide +kernel)) rfl
theorem wd2_3 : (Jvm.Cond.instanceMethod ({ cls := "RankRings", name := "forgetFindings", desc := "()V" } : Jvm.MethodName)) ∈ wG := wG2 (List.mem_of_getElem? (i := 3) (by decide +kernel)) rfl
theorem wd2_4 : (Jvm.Cond.code ({ cls := "RankRings", name := "forgetFindings", desc := "()V" } : Jvm.MethodName) prog_1_method_29_code (1 : Nat) (Option.none : Option Jvm.ClassFile.FieldType)) ∈ wG := wG2 (List.mem_of_getElem? (i := 4) rfl) rfl
theorem wd2_5 : (Jvm.Cond.methodLink "RankRings" (51 : Nat) ({ cls := "RankRings$Field", name := "append", desc := "(II)V" } : Jvm.MethodName)) ∈ wG := wG2 (List.mem_of_getElem? (i := 5) (by decide +kernel)) rfl
theorem wd2_6 : (Jvm.Cond.instanceMethod ({ cls := "RankRings$Field", name := "append", desc := "(II)V" } : Jvm.MethodName)) ∈ wG := wG2 (List.mem_of_getElem? (i := 6) (by decide +kernel)) rfl
theorem wd2_7 : (Jvm.Cond.selects "RankRings$Field" ({ cls := "RankRings$Field", name := "append", desc := "(II)V" } : Jvm.MethodName) ({ cls := "RankRings$Field", name := "append", desc := "(II)V" } : Jvm.MethodName)) ∈ wG := wG2 (List.mem_of_getElem? (i := 7) (by decide +kernel)) rfl
theorem wd2_8 : (Jvm.Cond.code ({ cls := "RankRings$Field", name := "append", desc := "(II)V" } : Jvm.MethodName) prog_2_method_10_code (3 : Nat) (Option.none : Option Jvm.ClassFile.FieldType)) ∈ wG := wG2 (List.mem_of_getElem? (i := 8) rfl) rfl
theorem wd2_9 : (Jvm.Cond.methodLink "RankRingsLaw" (29 : Nat) ({ cls := "RankRings", name := "way", desc := "(III)I" } : Jvm.MethodName)) ∈ wG := wG2 (List.mem_of_getElem? (i := 9) (by decide +kernel)) rfl
theorem wd2_10 : (Jvm.Cond.instanceMethod ({ cls := "RankRings", name := "way", desc := "(III)I" } : Jvm.MethodName)) ∈ wG := wG2 (List.mem_of_getElem? (i := 10) (by decide +kernel)) rfl
theorem wd2_11 : (Jvm.Cond.selects "RankRings" ({ cls := "RankRings", name := "way", desc := "(III)I" } : Jvm.MethodName) ({ cls := "RankRings", name := "way", desc := "(III)I" } : Jvm.MethodName)) ∈ wG := wG2 (List.mem_of_getElem? (i := 11) (by decide +kernel)) rfl
theorem wd2_12 : (Jvm.Cond.code ({ cls := "RankRings", name := "way", desc := "(III)I" } : Jvm.MethodName) prog_1_method_5_code (4 : Nat) (Option.some Jvm.ClassFile.FieldType.int)) ∈ wG := wG2 (List.mem_of_getElem? (i := 12) rfl) rfl
theorem wd2_13 : (Jvm.Cond.methodLink "RankRings" (71 : Nat) ({ cls := "java/lang/Integer", name := "bitCount", desc := "(I)I" } : Jvm.MethodName)) ∈ wG := wG2 (List.mem_of_getElem? (i := 13) (by decide +kernel)) rfl
theorem wd2_14 : (Jvm.Cond.methodLink "RankRingsLaw" (33 : Nat) ({ cls := "RankRingsLaw", name := "ones", desc := "(I)I" } : Jvm.MethodName)) ∈ wG := wG2 (List.mem_of_getElem? (i := 14) (by decide +kernel)) rfl
theorem wd2_15 : (Jvm.Cond.static ({ cls := "RankRingsLaw", name := "ones", desc := "(I)I" } : Jvm.MethodName)) ∈ wG := wG2 (List.mem_of_getElem? (i := 15) (by decide +kernel)) rfl
theorem wd2_16 : (Jvm.Cond.code ({ cls := "RankRingsLaw", name := "ones", desc := "(I)I" } : Jvm.MethodName) method_5_code (3 : Nat) (Option.some Jvm.ClassFile.FieldType.int)) ∈ wG := wG2 (List.mem_of_getElem? (i := 16) rfl) rfl
theorem wd2_17 : (Jvm.Cond.methodLink "RankRingsLaw" (37 : Nat) ({ cls := "RankRings", name := "own", desc := "(II)I" } : Jvm.MethodName)) ∈ wG := wG2 (List.mem_of_getElem? (i := 17) (by decide +kernel)) rfl
theorem wd2_18 : (Jvm.Cond.instanceMethod ({ cls := "RankRings", name := "own", desc := "(II)I" } : Jvm.MethodName)) ∈ wG := wG2 (List.mem_of_getElem? (i := 18) (by decide +kernel)) rfl
theorem wd2_19 : (Jvm.Cond.selects "RankRings" ({ cls := "RankRings", name := "own", desc := "(II)I" } : Jvm.MethodName) ({ cls := "RankRings", name := "own", desc := "(II)I" } : Jvm.MethodName)) ∈ wG := wG2 (List.mem_of_getElem? (i := 19) (by decide +kernel)) rfl
theorem wd2_20 : (Jvm.Cond.code ({ cls := "RankRings", name := "own", desc := "(II)I" } : Jvm.MethodName) prog_1_method_3_code (4 : Nat) (Option.some Jvm.ClassFile.FieldType.int)) ∈ wG := wG2 (List.mem_of_getElem? (i := 20) rfl) rfl
theorem wd2_21 : (Jvm.Cond.methodLink "RankRingsLaw" (40 : Nat) ({ cls := "RankRings", name := "rank", desc := "(II)I" } : Jvm.MethodName)) ∈ wG := wG2 (List.mem_of_getElem? (i := 21) (by decide +kernel)) rfl
theorem wd2_22 : (Jvm.Cond.instanceMethod ({ cls := "RankRings", name := "rank", desc := "(II)I" } : Jvm.MethodName)) ∈ wG := wG2 (List.mem_of_getElem? (i := 22) (by decide +kernel)) rfl
theorem wd2_23 : (Jvm.Cond.selects "RankRings" ({ cls := "RankRings", name := "rank", desc := "(II)I" } : Jvm.MethodName) ({ cls := "RankRings", name := "rank", desc := "(II)I" } : Jvm.MethodName)) ∈ wG := wG2 (List.mem_of_getElem? (i := 23) (by decide +kernel)) rfl
theorem wd2_24 : (Jvm.Cond.code ({ cls := "RankRings", name := "rank", desc := "(II)I" } : Jvm.MethodName) prog_1_method_4_code (4 : Nat) (Option.some Jvm.ClassFile.FieldType.int)) ∈ wG := wG2 (List.mem_of_getElem? (i := 24) rfl) rfl
theorem wd2_25 : (Jvm.Cond.methodLink "RankRingsLaw" (43 : Nat) ({ cls := "RankRings", name := "drop", desc := "(I)I" } : Jvm.MethodName)) ∈ wG := wG2 (List.mem_of_getElem? (i := 25) (by decide +kernel)) rfl
theorem wd2_26 : (Jvm.Cond.instanceMethod ({ cls := "RankRings", name := "drop", desc := "(I)I" } : Jvm.MethodName)) ∈ wG := wG2 (List.mem_of_getElem? (i := 26) (by decide +kernel)) rfl
theorem wd2_27 : (Jvm.Cond.selects "RankRings" ({ cls := "RankRings", name := "drop", desc := "(I)I" } : Jvm.MethodName) ({ cls := "RankRings", name := "drop", desc := "(I)I" } : Jvm.MethodName)) ∈ wG := wG2 (List.mem_of_getElem? (i := 27) (by decide +kernel)) rfl
theorem wd2_28 : (Jvm.Cond.code ({ cls := "RankRings", name := "drop", desc := "(I)I" } : Jvm.MethodName) prog_1_method_6_code (2 : Nat) (Option.some Jvm.ClassFile.FieldType.int)) ∈ wG := wG2 (List.mem_of_getElem? (i := 28) rfl) rfl
theorem wd2_29 : (Jvm.Cond.methodLink "RankRings" (77 : Nat) ({ cls := "RankRings$Field", name := "remove", desc := "(I)V" } : Jvm.MethodName)) ∈ wG := wG2 (List.mem_of_getElem? (i := 29) (by decide +kernel)) rfl
theorem wd2_30 : (Jvm.Cond.instanceMethod ({ cls := "RankRings$Field", name := "remove", desc := "(I)V" } : Jvm.MethodName)) ∈ wG := wG2 (List.mem_of_getElem? (i := 30) (by decide +kernel)) rfl
theorem wd2_31 : (Jvm.Cond.selects "RankRings$Field" ({ cls := "RankRings$Field", name := "remove", desc := "(I)V" } : Jvm.MethodName) ({ cls := "RankRings$Field", name := "remove", desc := "(I)V" } : Jvm.MethodName)) ∈ wG := wG2 (List.mem_of_getElem? (i := 31) (by decide +kernel)) rfl
theorem wd2_32 : (Jvm.Cond.code ({ cls := "RankRings$Field", name := "remove", desc := "(I)V" } : Jvm.MethodName) prog_2_method_11_code (4 : Nat) (Option.none : Option Jvm.ClassFile.FieldType)) ∈ wG := wG2 (List.mem_of_getElem? (i := 32) rfl) rfl
theorem wd2_33 : (Jvm.Cond.methodLink "RankRingsLaw" (46 : Nat) ({ cls := "RankRingsLaw", name := "reads", desc := "(LRankRings;[I[I[I[II)Z" } : Jvm.MethodName)) ∈ wG := wG2 (List.mem_of_getElem? (i := 33) (by decide +kernel)) rfl
theorem wd2_34 : (Jvm.Cond.static ({ cls := "RankRingsLaw", name := "reads", desc := "(LRankRings;[I[I[I[II)Z" } : Jvm.MethodName)) ∈ wG := wG2 (List.mem_of_getElem? (i := 34) (by decide +kernel)) rfl
theorem wd2_35 : (Jvm.Cond.code ({ cls := "RankRingsLaw", name := "reads", desc := "(LRankRings;[I[I[I[II)Z" } : Jvm.MethodName) method_9_code (11 : Nat) (Option.some Jvm.ClassFile.FieldType.boolean)) ∈ wG := wG2 (List.mem_of_getElem? (i := 35) rfl) rfl
theorem wd2_36 : (Jvm.Cond.methodLink "RankRingsLaw" (50 : Nat) ({ cls := "RankRings", name := "clearText", desc := "()I" } : Jvm.MethodName)) ∈ wG := wG2 (List.mem_of_getElem? (i := 36) (by decide +kernel)) rfl
theorem wd2_37 : (Jvm.Cond.instanceMethod ({ cls := "RankRings", name := "clearText", desc := "()I" } : Jvm.MethodName)) ∈ wG := wG2 (List.mem_of_getElem? (i := 37) (by decide +kernel)) rfl
theorem wd2_38 : (Jvm.Cond.selects "RankRings" ({ cls := "RankRings", name := "clearText", desc := "()I" } : Jvm.MethodName) ({ cls := "RankRings", name := "clearText", desc := "()I" } : Jvm.MethodName)) ∈ wG := wG2 (List.mem_of_getElem? (i := 38) (by decide +kernel)) rfl
theorem wd2_39 : (Jvm.Cond.code ({ cls := "RankRings", name := "clearText", desc := "()I" } : Jvm.MethodName) prog_1_method_21_code (2 : Nat) (Option.some Jvm.ClassFile.FieldType.int)) ∈ wG := wG2 (List.mem_of_getElem? (i := 39) rfl) rfl
theorem wd2_40 : (Jvm.Cond.methodLink "RankRingsLaw" (54 : Nat) ({ cls := "RankRings", name := "type", desc := "(I)I" } : Jvm.MethodName)) ∈ wG := wG2 (List.mem_of_getElem? (i := 40) (by decide +kernel)) rfl
theorem wd2_41 : (Jvm.Cond.instanceMethod ({ cls := "RankRings", name := "type", desc := "(I)I" } : Jvm.MethodName)) ∈ wG := wG2 (List.mem_of_getElem? (i := 41) (by decide +kernel)) rfl
theorem wd2_42 : (Jvm.Cond.selects "RankRings" ({ cls := "RankRings", name := "type", desc := "(I)I" } : Jvm.MethodName) ({ cls := "RankRings", name := "type", desc := "(I)I" } : Jvm.MethodName)) ∈ wG := wG2 (List.mem_of_getElem? (i := 42) (by decide +kernel)) rfl
theorem wd2_43 : (Jvm.Cond.code ({ cls := "RankRings", name := "type", desc := "(I)I" } : Jvm.MethodName) prog_1_method_20_code (2 : Nat) (Option.some Jvm.ClassFile.FieldType.int)) ∈ wG := wG2 (List.mem_of_getElem? (i := 43) rfl) rfl
theorem wd2_44 : (Jvm.Cond.methodLink "RankRings" (153 : Nat) ({ cls := "RankRings$Text", name := "append", desc := "(C)V" } : Jvm.MethodName)) ∈ wG := wG2 (List.mem_of_getElem? (i := 44) (by decide +kernel)) rfl
theorem wd2_45 : (Jvm.Cond.instanceMethod ({ cls := "RankRings$Text", name := "append", desc := "(C)V" } : Jvm.MethodName)) ∈ wG := wG2 (List.mem_of_getElem? (i := 45) (by decide +kernel)) rfl
theorem wd2_46 : (Jvm.Cond.selects "RankRings$Text" ({ cls := "RankRings$Text", name := "append", desc := "(C)V" } : Jvm.MethodName) ({ cls := "RankRings$Text", name := "append", desc := "(C)V" } : Jvm.MethodName)) ∈ wG := wG2 (List.mem_of_getElem? (i := 46) (by decide +kernel)) rfl
theorem wd2_47 : (Jvm.Cond.code ({ cls := "RankRings$Text", name := "append", desc := "(C)V" } : Jvm.MethodName) prog_4_method_2_code (2 : Nat) (Option.none : Option Jvm.ClassFile.FieldType)) ∈ wG := wG2 (List.mem_of_getElem? (i := 47) rfl) rfl
theorem wd2_48 : (Jvm.Cond.methodLink "RankRingsLaw" (57 : Nat) ({ cls := "RankRings", name := "fault", desc := "(I)I" } : Jvm.MethodName)) ∈ wG := wG2 (List.mem_of_getElem? (i := 48) (by decide +kernel)) rfl
theorem wd2_49 : (Jvm.Cond.instanceMethod ({ cls := "RankRings", name := "fault", desc := "(I)I" } : Jvm.MethodName)) ∈ wG := wG2 (List.mem_of_getElem? (i := 49) (by decide +kernel)) rfl
theorem wd2_50 : (Jvm.Cond.selects "RankRings" ({ cls := "RankRings", name := "fault", desc := "(I)I" } : Jvm.MethodName) ({ cls := "RankRings", name := "fault", desc := "(I)I" } : Jvm.MethodName)) ∈ wG := wG2 (List.mem_of_getElem? (i := 50) (by decide +kernel)) rfl
theorem wd2_51 : (Jvm.Cond.code ({ cls := "RankRings", name := "fault", desc := "(I)I" } : Jvm.MethodName) prog_1_method_22_code (2 : Nat) (Option.some Jvm.ClassFile.FieldType.int)) ∈ wG := wG2 (List.mem_of_getElem? (i := 51) rfl) rfl
theorem wd2_52 : (Jvm.Cond.methodLink "RankRings" (156 : Nat) ({ cls := "RankRings$Text", name := "isField", desc := "()Z" } : Jvm.MethodName)) ∈ wG := wG2 (List.mem_of_getElem? (i := 52) (by decide +kernel)) rfl
theorem wd2_53 : (Jvm.Cond.instanceMethod ({ cls := "RankRings$Text", name := "isField", desc := "()Z" } : Jvm.MethodName)) ∈ wG := wG2 (List.mem_of_getElem? (i := 53) (by decide +kernel)) rfl
theorem wd2_54 : (Jvm.Cond.selects "RankRings$Text" ({ cls := "RankRings$Text", name := "isField", desc := "()Z" } : Jvm.MethodName) ({ cls := "RankRings$Text", name := "isField", desc := "()Z" } : Jvm.MethodName)) ∈ wG := wG2 (List.mem_of_getElem? (i := 54) (by decide +kernel)) rfl
theorem wd2_55 : (Jvm.Cond.code ({ cls := "RankRings$Text", name := "isField", desc := "()Z" } : Jvm.MethodName) prog_4_method_3_code (1 : Nat) (Option.some Jvm.ClassFile.FieldType.boolean)) ∈ wG := wG2 (List.mem_of_getElem? (i := 55) rfl) rfl
theorem wd2_56 : (Jvm.Cond.methodLink "RankRings$Text" (42 : Nat) ({ cls := "RankRings$Text", name := "lookAtPlaces", desc := "()Z" } : Jvm.MethodName)) ∈ wG := wG2 (List.mem_of_getElem? (i := 56) (by decide +kernel)) rfl
theorem wd2_58 : (Jvm.Cond.instanceMethod ({ cls := "RankRings$Text", name := "lookAtPlaces", desc := "()Z" } : Jvm.MethodName)) ∈ wG := wG2 (List.mem_of_getElem? (i := 58) (by decide +kernel)) rfl
theorem wd2_59 : (Jvm.Cond.code ({ cls := "RankRings$Text", name := "lookAtPlaces", desc := "()Z" } : Jvm.MethodName) prog_4_method_4_code (2 : Nat) (Option.some Jvm.ClassFile.FieldType.boolean)) ∈ wG := wG2 (List.mem_of_getElem? (i := 59) rfl) rfl
theorem wd2_60 : (Jvm.Cond.methodLink "RankRings$Text" (49 : Nat) ({ cls := "RankRings$Text", name := "lookAtPlace", desc := "()Z" } : Jvm.MethodName)) ∈ wG := wG2 (List.mem_of_getElem? (i := 60) (by decide +kernel)) rfl
theorem wd2_62 : (Jvm.Cond.instanceMethod ({ cls := "RankRings$Text", name := "lookAtPlace", desc := "()Z" } : Jvm.MethodName)) ∈ wG := wG2 (List.mem_of_getElem? (i := 62) (by decide +kernel)) rfl
theorem wd2_63 : (Jvm.Cond.code ({ cls := "RankRings$Text", name := "lookAtPlace", desc := "()Z" } : Jvm.MethodName) prog_4_method_5_code (3 : Nat) (Option.some Jvm.ClassFile.FieldType.boolean)) ∈ wG := wG2 (List.mem_of_getElem? (i := 63) rfl) rfl
theorem wd2_64 : (Jvm.Cond.methodLink "RankRings$Text" (52 : Nat) ({ cls := "RankRings$Text", name := "character", desc := "()C" } : Jvm.MethodName)) ∈ wG := wG2 (List.mem_of_getElem? (i := 64) (by decide +kernel)) rfl
theorem wd2_66 : (Jvm.Cond.instanceMethod ({ cls := "RankRings$Text", name := "character", desc := "()C" } : Jvm.MethodName)) ∈ wG := wG2 (List.mem_of_getElem? (i := 66) (by decide +kernel)) rfl
theorem wd2_67 : (Jvm.Cond.code ({ cls := "RankRings$Text", name := "character", desc := "()C" } : Jvm.MethodName) prog_4_method_11_code (1 : Nat) (Option.some Jvm.ClassFile.FieldType.char)) ∈ wG := wG2 (List.mem_of_getElem? (i := 67) rfl) rfl
theorem wd2_68 : (Jvm.Cond.methodLink "RankRings$Text" (56 : Nat) ({ cls := "RankRings$Text", name := "blame", desc := "(II)Z" } : Jvm.MethodName)) ∈ wG := wG2 (List.mem_of_getElem? (i := 68) (by decide +kernel)) rfl
theorem wd2_70 : (Jvm.Cond.instanceMethod ({ cls := "RankRings$Text", name := "blame", desc := "(II)Z" } : Jvm.MethodName)) ∈ wG := wG2 (List.mem_of_getElem? (i := 70) (by decide +kernel)) rfl
theorem wd2_71 : (Jvm.Cond.code ({ cls := "RankRings$Text", name := "blame", desc := "(II)Z" } : Jvm.MethodName) prog_4_method_10_code (3 : Nat) (Option.some Jvm.ClassFile.FieldType.boolean)) ∈ wG := wG2 (List.mem_of_getElem? (i := 71) rfl) rfl
theorem wd2_72 : (Jvm.Cond.methodLink "RankRings$Text" (60 : Nat) ({ cls := "RankRings$Text", name := "digit", desc := "()I" } : Jvm.MethodName)) ∈ wG := wG2 (List.mem_of_getElem? (i := 72) (by decide +kernel)) rfl
theorem wd2_74 : (Jvm.Cond.instanceMethod ({ cls := "RankRings$Text", name := "digit", desc := "()I" } : Jvm.MethodName)) ∈ wG := wG2 (List.mem_of_getElem? (i := 74) (by decide +kernel)) rfl
theorem wd2_75 : (Jvm.Cond.code ({ cls := "RankRings$Text", name := "digit", desc := "()I" } : Jvm.MethodName) prog_4_method_12_code (2 : Nat) (Option.some Jvm.ClassFile.FieldType.int)) ∈ wG := wG2 (List.mem_of_getElem? (i := 75) rfl) rfl
theorem wd2_77 : (Jvm.Cond.methodLink "RankRings$Text" (68 : Nat) ({ cls := "RankRings$Field", name := "append", desc := "(II)V" } : Jvm.MethodName)) ∈ wG := wG2 (List.mem_of_getElem? (i := 77) (by decide +kernel)) rfl
theorem wd2_78 : (Jvm.Cond.methodLink "RankRings$Text" (72 : Nat) ({ cls := "RankRings$Text", name := "lookAtWays", desc := "()Z" } : Jvm.MethodName)) ∈ wG := wG2 (List.mem_of_getElem? (i := 78) (by decide +kernel)) rfl
theorem wd2_80 : (Jvm.Cond.instanceMethod ({ cls := "RankRings$Text", name := "lookAtWays", desc := "()Z" } : Jvm.MethodName)) ∈ wG := wG2 (List.mem_of_getElem? (i := 80) (by decide +kernel)) rfl
theorem wd2_81 : (Jvm.Cond.code ({ cls := "RankRings$Text", name := "lookAtWays", desc := "()Z" } : Jvm.MethodName) prog_4_method_6_code (5 : Nat) (Option.some Jvm.ClassFile.FieldType.boolean)) ∈ wG := wG2 (List.mem_of_getElem? (i := 81) rfl) rfl
theorem wd2_82 : (Jvm.Cond.methodLink "RankRings$Text" (75 : Nat) ({ cls := "RankRings$Text", name := "isToldSince", desc := "(II)Z" } : Jvm.MethodName)) ∈ wG := wG2 (List.mem_of_getElem? (i := 82) (by decide +kernel)) rfl
theorem wd2_84 : (Jvm.Cond.instanceMethod ({ cls := "RankRings$Text", name := "isToldSince", desc := "(II)Z" } : Jvm.MethodName)) ∈ wG := wG2 (List.mem_of_getElem? (i := 84) (by decide +kernel)) rfl
theorem wd2_85 : (Jvm.Cond.code ({ cls := "RankRings$Text", name := "isToldSince", desc := "(II)Z" } : Jvm.MethodName) prog_4_method_7_code (4 : Nat) (Option.some Jvm.ClassFile.FieldType.boolean)) ∈ wG := wG2 (List.mem_of_getElem? (i := 85) rfl) rfl
theorem wd2_86 : (Jvm.Cond.methodLink "RankRings$Text" (78 : Nat) ({ cls := "RankRings$Text", name := "tellWay", desc := "(II)V" } : Jvm.MethodName)) ∈ wG := wG2 (List.mem_of_getElem? (i := 86) (by decide +kernel)) rfl
theorem wd2_88 : (Jvm.Cond.instanceMethod ({ cls := "RankRings$Text", name := "tellWay", desc := "(II)V" } : Jvm.MethodName)) ∈ wG := wG2 (List.mem_of_getElem? (i := 88) (by decide +kernel)) rfl
theorem wd2_89 : (Jvm.Cond.code ({ cls := "RankRings$Text", name := "tellWay", desc := "(II)V" } : Jvm.MethodName) prog_4_method_8_code (4 : Nat) (Option.none : Option Jvm.ClassFile.FieldType)) ∈ wG := wG2 (List.mem_of_getElem? (i := 89) rfl) rfl
theorem wd2_90 : (Jvm.Cond.methodLink "RankRings$Text" (81 : Nat) ({ cls := "RankRings$Field", name := "has", desc := "(I)Z" } : Jvm.MethodName)) ∈ wG := wG2 (List.mem_of_getElem? (i := 90) (by decide +kernel)) rfl
theorem wd2_91 : (Jvm.Cond.methodLink "RankRings$Text" (46 : Nat) ({ cls := "RankRings$Text", name := "lookForPlacesOfWays", desc := "()Z" } : Jvm.MethodName)) ∈ wG := wG2 (List.mem_of_getElem? (i := 91) (by decide +kernel)) rfl
theorem wd2_93 : (Jvm.Cond.instanceMethod ({ cls := "RankRings$Text", name := "lookForPlacesOfWays", desc := "()Z" } : Jvm.MethodName)) ∈ wG := wG2 (List.mem_of_getElem? (i := 93) (by decide +kernel)) rfl
theorem wd2_94 : (Jvm.Cond.code ({ cls := "RankRings$Text", name := "lookForPlacesOfWays", desc := "()Z" } : Jvm.MethodName) prog_4_method_9_code (2 : Nat) (Option.some Jvm.ClassFile.FieldType.boolean)) ∈ wG := wG2 (List.mem_of_getElem? (i := 94) rfl) rfl
theorem wd2_95 : (Jvm.Cond.methodLink "RankRingsLaw" (60 : Nat) ({ cls := "RankRings", name := "read", desc := "()I" } : Jvm.MethodName)) ∈ wG := wG2 (List.mem_of_getElem? (i := 95) (by decide +kernel)) rfl
theorem wd2_96 : (Jvm.Cond.instanceMethod ({ cls := "RankRings", name := "read", desc := "()I" } : Jvm.MethodName)) ∈ wG := wG2 (List.mem_of_getElem? (i := 96) (by decide +kernel)) rfl
theorem wd2_97 : (Jvm.Cond.selects "RankRings" ({ cls := "RankRings", name := "read", desc := "()I" } : Jvm.MethodName) ({ cls := "RankRings", name := "read", desc := "()I" } : Jvm.MethodName)) ∈ wG := wG2 (List.mem_of_getElem? (i := 97) (by decide +kernel)) rfl
theorem wd2_98 : (Jvm.Cond.code ({ cls := "RankRings", name := "read", desc := "()I" } : Jvm.MethodName) prog_1_method_23_code (1 : Nat) (Option.some Jvm.ClassFile.FieldType.int)) ∈ wG := wG2 (List.mem_of_getElem? (i := 98) rfl) rfl
theorem wd2_99 : (Jvm.Cond.methodLink "RankRingsLaw" (84 : Nat) ({ cls := "RankRingsLaw", name := "isSo", desc := "(LRankRings;[I[I[I[IZ)Z" } : Jvm.MethodName)) ∈ wG := wG2 (List.mem_of_getElem? (i := 99) (by decide +kernel)) rfl
theorem wd2_100 : (Jvm.Cond.static ({ cls := "RankRingsLaw", name := "isSo", desc := "(LRankRings;[I[I[I[IZ)Z" } : Jvm.MethodName)) ∈ wG := wG2 (List.mem_of_getElem? (i := 100) (by decide +kernel)) rfl
theorem wd2_101 : (Jvm.Cond.code ({ cls := "RankRingsLaw", name := "isSo", desc := "(LRankRings;[I[I[I[IZ)Z" } : Jvm.MethodName) method_11_code (14 : Nat) (Option.some Jvm.ClassFile.FieldType.boolean)) ∈ wG := wG2 (List.mem_of_getElem? (i := 101) rfl) rfl
theorem wd2_102 : (Jvm.Cond.methodLink "RankRingsLaw" (66 : Nat) ({ cls := "RankRingsLaw", name := "won", desc := "([I[I[I[I)I" } : Jvm.MethodName)) ∈ wG := wG2 (List.mem_of_getElem? (i := 102) (by decide +kernel)) rfl
theorem wd2_103 : (Jvm.Cond.static ({ cls := "RankRingsLaw", name := "won", desc := "([I[I[I[I)I" } : Jvm.MethodName)) ∈ wG := wG2 (List.mem_of_getElem? (i := 103) (by decide +kernel)) rfl
theorem wd2_104 : (Jvm.Cond.code ({ cls := "RankRingsLaw", name := "won", desc := "([I[I[I[I)I" } : Jvm.MethodName) method_7_code (13 : Nat) (Option.some Jvm.ClassFile.FieldType.int)) ∈ wG := wG2 (List.mem_of_getElem? (i := 104) rfl) rfl
theorem wd2_105 : (Jvm.Cond.methodLink "RankRingsLaw" (9 : Nat) ({ cls := "RankRingsLaw", name := "all", desc := "([I)I" } : Jvm.MethodName)) ∈ wG := wG2 (List.mem_of_getElem? (i := 105) (by decide +kernel)) rfl
theorem wd2_106 : (Jvm.Cond.static ({ cls := "RankRingsLaw", name := "all", desc := "([I)I" } : Jvm.MethodName)) ∈ wG := wG2 (List.mem_of_getElem? (i := 106) (by decide +kernel)) rfl
theorem wd2_107 : (Jvm.Cond.code ({ cls := "RankRingsLaw", name := "all", desc := "([I)I" } : Jvm.MethodName) method_4_code (1 : Nat) (Option.some Jvm.ClassFile.FieldType.int)) ∈ wG := wG2 (List.mem_of_getElem? (i := 107) rfl) rfl
theorem wd2_108 : (Jvm.Cond.methodLink "RankRingsLaw" (15 : Nat) ({ cls := "RankRingsLaw", name := "next", desc := "([I[I[I[I[I)I" } : Jvm.MethodName)) ∈ wG := wG2 (List.mem_of_getElem? (i := 108) (by decide +kernel)) rfl
theorem wd2_109 : (Jvm.Cond.static ({ cls := "RankRingsLaw", name := "next", desc := "([I[I[I[I[I)I" } : Jvm.MethodName)) ∈ wG := wG2 (List.mem_of_getElem? (i := 109) (by decide +kernel)) rfl
theorem wd2_110 : (Jvm.Cond.code ({ cls := "RankRingsLaw", name := "next", desc := "([I[I[I[I[I)I" } : Jvm.MethodName) method_6_code (9 : Nat) (Option.some Jvm.ClassFile.FieldType.int)) ∈ wG := wG2 (List.mem_of_getElem? (i := 110) rfl) rfl
theorem wd2_111 : (Jvm.Cond.methodLink "RankRingsLaw" (73 : Nat) ({ cls := "RankRingsLaw", name := "areChoices", desc := "(LRankRings;[I[I[I[II)Z" } : Jvm.MethodName)) ∈ wG := wG2 (List.mem_of_getElem? (i := 111) (by decide +kernel)) rfl
theorem wd2_112 : (Jvm.Cond.static ({ cls := "RankRingsLaw", name := "areChoices", desc := "(LRankRings;[I[I[I[II)Z" } : Jvm.MethodName)) ∈ wG := wG2 (List.mem_of_getElem? (i := 112) (by decide +kernel)) rfl
theorem wd2_113 : (Jvm.Cond.code ({ cls := "RankRingsLaw", name := "areChoices", desc := "(LRankRings;[I[I[I[II)Z" } : Jvm.MethodName) method_10_code (13 : Nat) (Option.some Jvm.ClassFile.FieldType.boolean)) ∈ wG := wG2 (List.mem_of_getElem? (i := 113) rfl) rfl
theorem wdp_0 : Cond.selects "RankRings" ⟨"RankRings", "findWinners", "()V"⟩ ⟨"RankRings", "findWinners", "()V"⟩ ∈ wG := wGp (q := (⟨"RankRings", "findWinners", "()V"⟩, 11)) (List.mem_of_getElem? (i := 0) (by decide +kernel)) rfl
theorem wdp_1 : Cond.selects "RankRings" ⟨"RankRings", "winnerFrom", "(I)I"⟩ ⟨"RankRings", "winnerFrom", "(I)I"⟩ ∈ wG := wGp (q := (⟨"RankRings", "winnerFrom", "(I)I"⟩, 11)) (List.mem_of_getElem? (i := 1) (by decide +kernel)) rfl
theorem wdp_2 : Cond.selects "RankRings" ⟨"RankRings", "findChoices", "()V"⟩ ⟨"RankRings", "findChoices", "()V"⟩ ∈ wG := wGp (q := (⟨"RankRings", "findChoices", "()V"⟩, 11)) (List.mem_of_getElem? (i := 2) (by decide +kernel)) rfl
theorem wdp_3 : Cond.selects "RankRings" ⟨"RankRings", "settle", "(I)I"⟩ ⟨"RankRings", "settle", "(I)I"⟩ ∈ wG := wGp (q := (⟨"RankRings", "settle", "(I)I"⟩, 11)) (List.mem_of_getElem? (i := 3) (by decide +kernel)) rfl
theorem wdp_4 : Cond.selects "RankRings" ⟨"RankRings", "winsOf", "(I)I"⟩ ⟨"RankRings", "winsOf", "(I)I"⟩ ∈ wG := wGp (q := (⟨"RankRings", "winsOf", "(I)I"⟩, 11)) (List.mem_of_getElem? (i := 4) (by decide +kernel)) rfl
theorem wdp_5 : Cond.selects "RankRings" ⟨"RankRings", "recordState", "()V"⟩ ⟨"RankRings", "recordState", "()V"⟩ ∈ wG := wGp (q := (⟨"RankRings", "recordState", "()V"⟩, 11)) (List.mem_of_getElem? (i := 5) (by decide +kernel)) rfl
theorem wdp_6 : Cond.selects "RankRings" ⟨"RankRings", "dropOldestState", "()V"⟩ ⟨"RankRings", "dropOldestState", "()V"⟩ ∈ wG := wGp (q := (⟨"RankRings", "dropOldestState", "()V"⟩, 11)) (List.mem_of_getElem? (i := 6) (by decide +kernel)) rfl
theorem wdp_7 : Cond.selects "RankRings" ⟨"RankRings", "forgetFindings", "()V"⟩ ⟨"RankRings", "forgetFindings", "()V"⟩ ∈ wG := wGp (q := (⟨"RankRings", "forgetFindings", "()V"⟩, 11)) (List.mem_of_getElem? (i := 7) (by decide +kernel)) rfl
theorem wdp_8 : Cond.selects "RankRings$Text" ⟨"RankRings$Text", "lookAtPlaces", "()Z"⟩ ⟨"RankRings$Text", "lookAtPlaces", "()Z"⟩ ∈ wG := wGp (q := (⟨"RankRings$Text", "lookAtPlaces", "()Z"⟩, 9)) (List.mem_of_getElem? (i := 8) (by decide +kernel)) rfl
theorem wdp_9 : Cond.selects "RankRings$Text" ⟨"RankRings$Text", "lookAtPlace", "()Z"⟩ ⟨"RankRings$Text", "lookAtPlace", "()Z"⟩ ∈ wG := wGp (q := (⟨"RankRings$Text", "lookAtPlace", "()Z"⟩, 9)) (List.mem_of_getElem? (i := 9) (by decide +kernel)) rfl
theorem wdp_10 : Cond.selects "RankRings$Text" ⟨"RankRings$Text", "character", "()C"⟩ ⟨"RankRings$Text", "character", "()C"⟩ ∈ wG := wGp (q := (⟨"RankRings$Text", "character", "()C"⟩, 9)) (List.mem_of_getElem? (i := 10) (by decide +kernel)) rfl
theorem wdp_11 : Cond.selects "RankRings$Text" ⟨"RankRings$Text", "blame", "(II)Z"⟩ ⟨"RankRings$Text", "blame", "(II)Z"⟩ ∈ wG := wGp (q := (⟨"RankRings$Text", "blame", "(II)Z"⟩, 9)) (List.mem_of_getElem? (i := 11) (by decide +kernel)) rfl
theorem wdp_12 : Cond.selects "RankRings$Text" ⟨"RankRings$Text", "digit", "()I"⟩ ⟨"RankRings$Text", "digit", "()I"⟩ ∈ wG := wGp (q := (⟨"RankRings$Text", "digit", "()I"⟩, 9)) (List.mem_of_getElem? (i := 12) (by decide +kernel)) rfl
theorem wdp_13 : Cond.selects "RankRings$Text" ⟨"RankRings$Text", "lookAtWays", "()Z"⟩ ⟨"RankRings$Text", "lookAtWays", "()Z"⟩ ∈ wG := wGp (q := (⟨"RankRings$Text", "lookAtWays", "()Z"⟩, 9)) (List.mem_of_getElem? (i := 13) (by decide +kernel)) rfl
theorem wdp_14 : Cond.selects "RankRings$Text" ⟨"RankRings$Text", "isToldSince", "(II)Z"⟩ ⟨"RankRings$Text", "isToldSince", "(II)Z"⟩ ∈ wG := wGp (q := (⟨"RankRings$Text", "isToldSince", "(II)Z"⟩, 9)) (List.mem_of_getElem? (i := 14) (by decide +kernel)) rfl
theorem wdp_15 : Cond.selects "RankRings$Text" ⟨"RankRings$Text", "tellWay", "(II)V"⟩ ⟨"RankRings$Text", "tellWay", "(II)V"⟩ ∈ wG := wGp (q := (⟨"RankRings$Text", "tellWay", "(II)V"⟩, 9)) (List.mem_of_getElem? (i := 15) (by decide +kernel)) rfl
theorem wdp_16 : Cond.selects "RankRings$Text" ⟨"RankRings$Text", "lookForPlacesOfWays", "()Z"⟩ ⟨"RankRings$Text", "lookForPlacesOfWays", "()Z"⟩ ∈ wG := wGp (q := (⟨"RankRings$Text", "lookForPlacesOfWays", "()Z"⟩, 9)) (List.mem_of_getElem? (i := 16) (by decide +kernel)) rfl
theorem yfX3_init : YF yX3_init cX3_init 2 none 0 := ⟨wd1_11, wd1_1, by decide +kernel⟩
theorem yfX0_init : YF yX0_init cX0_init 1 none 0 := ⟨wd1_19, wd1_2, by decide +kernel⟩
theorem yfX2_init : YF yX2_init cX2_init 1 none 0 := ⟨wd1_49, wd1_3, by decide +kernel⟩
theorem yfX3_placeOf : YF yX3_placeOf cX3_placeOf 3 (some .int) 2 := ⟨wd1_123, wd1_1, by decide +kernel⟩
theorem yfX0_has : YF yX0_has cX0_has 2 (some .boolean) 1 := ⟨wd1_127, wd1_2, by decide +kernel⟩
theorem yfX0_waysTo : YF yX0_waysTo cX0_waysTo 4 (some .int) 1 := ⟨wd1_131, wd1_2, by decide +kernel⟩
theorem yfX3_contains : YF yX3_contains cX3_contains 2 (some .boolean) 2 := ⟨wd1_134, wd1_1, by decide +kernel⟩
theorem yfX3_findWinners : YF yX3_findWinners cX3_findWinners 1 none 0 := ⟨wd1_138, wd1_1, by decide +kernel⟩
theorem yfX1_winsOf0 : YF yX1_winsOf0 cX1_winsOf0 4 (some .int) 1 := ⟨wd1_141, wd1_5, by decide +kernel⟩
theorem yfX0_all : YF yX0_all cX0_all 1 (some .int) 0 := ⟨wd1_145, wd1_2, by decide +kernel⟩
theorem yfX0_endsOf : YF yX0_endsOf cX0_endsOf 4 (some .int) 1 := ⟨wd1_149, wd1_2, by decide +kernel⟩
theorem yfX1_pull : YF yX1_pull cX1_pull 7 (some .int) 4 := ⟨wd1_152, wd1_5, by decide +kernel⟩
theorem yfX1_pullOnce : YF yX1_pullOnce cX1_pullOnce 8 (some .int) 4 := ⟨wd1_155, wd1_5, by decide +kernel⟩
theorem yfX1_winsWithin : YF yX1_winsWithin cX1_winsWithin 11 (some .int) 4 := ⟨wd1_158, wd1_5, by decide +kernel⟩
theorem yfX0_ranked : YF yX0_ranked cX0_ranked 4 (some .int) 1 := ⟨wd1_162, wd1_2, by decide +kernel⟩
theorem yfX3_winnerFrom : YF yX3_winnerFrom cX3_winnerFrom 2 (some .int) 1 := ⟨wd1_166, wd1_1, by decide +kernel⟩
theorem yfX3_findChoices : YF yX3_findChoices cX3_findChoices 3 none 0 := ⟨wd1_171, wd1_1, by decide +kernel⟩
theorem yfX0_copyFrom : YF yX0_copyFrom cX0_copyFrom 3 none 1 := ⟨wd1_175, wd1_2, by decide +kernel⟩
theorem yfX3_settle : YF yX3_settle cX3_settle 4 (some .int) 1 := ⟨wd1_179, wd1_1, by decide +kernel⟩
theorem yfX3_winsOf : YF yX3_winsOf cX3_winsOf 2 (some .int) 1 := ⟨wd1_183, wd1_1, by decide +kernel⟩
theorem yfJ6_numberOfTrailingZeros_0f7a4 : YF yJ6_numberOfTrailingZeros_0f7a4 cJ6_numberOfTrailingZeros_0f7a4 2 (some .int) 1 := ⟨wd1_187, wd1_4, by decide +kernel⟩
theorem yfX3_count : YF yX3_count cX3_count 2 (some .int) 1 := ⟨wd1_192, wd1_1, by decide +kernel⟩
theorem yfX0_numberOfWays : YF yX0_numberOfWays cX0_numberOfWays 3 (some .int) 0 := ⟨wd1_196, wd1_2, by decide +kernel⟩
theorem yfJ6_bitCount_0f7a4 : YF yJ6_bitCount_0f7a4 cJ6_bitCount_0f7a4 1 (some .int) 1 := ⟨wd1_199, wd1_4, by decide +kernel⟩
theorem yfX0_greatestRank : YF yX0_greatestRank cX0_greatestRank 3 (some .int) 0 := ⟨wd1_207, wd1_2, by decide +kernel⟩
theorem yfJ9_max_7cf53 : YF yJ9_max_7cf53 cJ9_max_7cf53 2 (some .int) 2 := ⟨wd1_210, wd1_6, by decide +kernel⟩
theorem yfL_cell : YF yL_cell cL_cell 2 (some .int) 2 := ⟨wd1_213, wd1_0, by decide +kernel⟩
theorem yfL_low : YF yL_low cL_low 2 (some .int) 2 := ⟨wd1_217, wd1_0, by decide +kernel⟩
theorem yfL_acts : YF yL_acts cL_acts 12 (some .boolean) 6 := ⟨wd1_221, wd1_0, by decide +kernel⟩
theorem yfX3_add : YF yX3_add cX3_add 3 (some .int) 2 := ⟨wd1_226, wd1_1, by decide +kernel⟩
theorem yfX3_isPlayer : YF yX3_isPlayer cX3_isPlayer 1 (some .boolean) 1 := ⟨wd1_229, wd1_1, by decide +kernel⟩
theorem yfX3_isRank : YF yX3_isRank cX3_isRank 1 (some .boolean) 1 := ⟨wd1_232, wd1_1, by decide +kernel⟩
theorem yfX3_recordState : YF yX3_recordState cX3_recordState 1 none 0 := ⟨wd1_236, wd1_1, by decide +kernel⟩
theorem yfX3_dropOldestState : YF yX3_dropOldestState cX3_dropOldestState 3 none 0 := ⟨wd2_0, wd1_1, by decide +kernel⟩
theorem yfX3_forgetFindings : YF yX3_forgetFindings cX3_forgetFindings 1 none 0 := ⟨wd2_4, wd1_1, by decide +kernel⟩
theorem yfX0_append : YF yX0_append cX0_append 3 none 2 := ⟨wd2_8, wd1_2, by decide +kernel⟩
theorem yfX3_way : YF yX3_way cX3_way 4 (some .int) 3 := ⟨wd2_12, wd1_1, by decide +kernel⟩
theorem yfL_ones : YF yL_ones cL_ones 3 (some .int) 1 := ⟨wd2_16, wd1_0, by decide +kernel⟩
theorem yfX3_own : YF yX3_own cX3_own 4 (some .int) 2 := ⟨wd2_20, wd1_1, by decide +kernel⟩
theorem yfX3_rank : YF yX3_rank cX3_rank 4 (some .int) 2 := ⟨wd2_24, wd1_1, by decide +kernel⟩
theorem yfX3_drop : YF yX3_drop cX3_drop 2 (some .int) 1 := ⟨wd2_28, wd1_1, by decide +kernel⟩
theorem yfX0_remove : YF yX0_remove cX0_remove 4 none 1 := ⟨wd2_32, wd1_2, by decide +kernel⟩
theorem yfL_reads : YF yL_reads cL_reads 11 (some .boolean) 6 := ⟨wd2_35, wd1_0, by decide +kernel⟩
theorem yfX3_clearText : YF yX3_clearText cX3_clearText 2 (some .int) 0 := ⟨wd2_39, wd1_1, by decide +kernel⟩
theorem yfX3_type : YF yX3_type cX3_type 2 (some .int) 1 := ⟨wd2_43, wd1_1, by decide +kernel⟩
theorem yfX2_append : YF yX2_append cX2_append 2 none 1 := ⟨wd2_47, wd1_3, by decide +kernel⟩
theorem yfX3_fault : YF yX3_fault cX3_fault 2 (some .int) 1 := ⟨wd2_51, wd1_1, by decide +kernel⟩
theorem yfX2_isField : YF yX2_isField cX2_isField 1 (some .boolean) 0 := ⟨wd2_55, wd1_3, by decide +kernel⟩
theorem yfX2_lookAtPlaces : YF yX2_lookAtPlaces cX2_lookAtPlaces 2 (some .boolean) 0 := ⟨wd2_59, wd1_3, by decide +kernel⟩
theorem yfX2_lookAtPlace : YF yX2_lookAtPlace cX2_lookAtPlace 3 (some .boolean) 0 := ⟨wd2_63, wd1_3, by decide +kernel⟩
theorem yfX2_character : YF yX2_character cX2_character 1 (some .char) 0 := ⟨wd2_67, wd1_3, by decide +kernel⟩
theorem yfX2_blame : YF yX2_blame cX2_blame 3 (some .boolean) 2 := ⟨wd2_71, wd1_3, by decide +kernel⟩
theorem yfX2_digit : YF yX2_digit cX2_digit 2 (some .int) 0 := ⟨wd2_75, wd1_3, by decide +kernel⟩
theorem yfX2_lookAtWays : YF yX2_lookAtWays cX2_lookAtWays 5 (some .boolean) 0 := ⟨wd2_81, wd1_3, by decide +kernel⟩
theorem yfX2_isToldSince : YF yX2_isToldSince cX2_isToldSince 4 (some .boolean) 2 := ⟨wd2_85, wd1_3, by decide +kernel⟩
theorem yfX2_tellWay : YF yX2_tellWay cX2_tellWay 4 none 2 := ⟨wd2_89, wd1_3, by decide +kernel⟩
theorem yfX2_lookForPlacesOfWays : YF yX2_lookForPlacesOfWays cX2_lookForPlacesOfWays 2 (some .boolean) 0 := ⟨wd2_94, wd1_3, by decide +kernel⟩
theorem yfX3_read : YF yX3_read cX3_read 1 (some .int) 0 := ⟨wd2_98, wd1_1, by decide +kernel⟩
theorem yfL_isSo : YF yL_isSo cL_isSo 14 (some .boolean) 6 := ⟨wd2_101, wd1_0, by decide +kernel⟩
theorem yfL_won : YF yL_won cL_won 13 (some .int) 4 := ⟨wd2_104, wd1_0, by decide +kernel⟩
theorem yfL_all : YF yL_all cL_all 1 (some .int) 1 := ⟨wd2_107, wd1_0, by decide +kernel⟩
theorem yfL_next : YF yL_next cL_next 9 (some .int) 5 := ⟨wd2_110, wd1_0, by decide +kernel⟩
theorem yfL_areChoices : YF yL_areChoices cL_areChoices 13 (some .boolean) 6 := ⟨wd2_113, wd1_0, by decide +kernel⟩
theorem wdaI : (Jvm.Cond.arrayClass Jvm.ClassFile.FieldType.int) ∈ wG := wG1 (List.mem_of_getElem? (i := 43) (by decide +kernel)) rfl
theorem wdaC : (Jvm.Cond.arrayClass Jvm.ClassFile.FieldType.char) ∈ wG := wG1 (List.mem_of_getElem? (i := 85) (by decide +kernel)) rfl
