def f_L_cell (L : Nat) (xs : Nat → Int32) (k : Int32) : Option Int32 := if Int32.ofNat L ≤ k then some (40503 * (k + 3)) else chk (gi k L) (some (xs (Int32.toNatClampNeg k)))
/-- cell reads the script, that is no cell of the world -/
def CTs (l : Launch) (D : va_G) (T : List (ClassId × FieldType)) (b L : Nat) (xs : Nat → Int32) (k r : Int32) : Prop :=
  ∀ sz : Nat, Met l yL_cell (Cond.code yL_cell cL_cell 2 (some .int) :: wG) (rmn 0 0 0 0) (va_Pc [.ref b, .int k] (fun U => PC D T sz [] U ∧ va_X b L xs U U.heap ∧ b < sz)) (va_Qi (fun r' (_ : Unit) => r' = r) (fun _ => PQ D T (va_A [] sz) []) (va_A [] sz)) 0 0 (va_A [] sz)
set_option maxHeartbeats 4000000 in
theorem c_L_cell (l : Launch) (D : va_G) (cI cC cH : ClassId) (b L : Nat) (xs : Nat → Int32) (k y : Int32) (h : f_L_cell L xs k = some y) : CTs l D (tyL cI cC cH) b L xs k y := by
  intro sz
  refine Met.ofW (cc := cL_cell) (maxL := 2) (ret := some .int) (by decide) rfl ?_
  intro p e s m args below meth c s₁ B hml hv
  obtain ⟨rfl, ⟨hsz, hP, hK, hD0, hN⟩, hX, hbl⟩ := hv
  have hts0 := atoms_spec (ws := Cond.code yL_cell cL_cell 2 (some .int) :: wG) B.pre
  subst hsz
  have hr := B.returns
  have F : FX p m c cL_cell 2 s ([.ref b, .int k] : List Value).toArray RL D (tyL cI cC cH) (va_A [] s.heap.size) := ⟨B.exec, B.bytes, hml, findClass_of_methodNamed B.named, fun w h => hts0 w (List.mem_cons_of_mem _ h), hN, hK, fun q h => Or.inr h⟩
  have hx := F.1
  have hb := F.2.1
  have hown : s.vm.findClass RL = some m.cls := F.2.2.2.1
  have hts := F.2.2.2.2.1
  have hS : va_S (va_A [] s.heap.size) s.heap s.heap [] := va_S.rf
  have hD : va_D (va_A [] s.heap.size) [] := hD0.self (sz := s.heap.size)
  have hbA : ¬ va_A [] s.heap.size b := by
    rintro (⟨j, e, h⟩ | h)
    · simp at h
    · omega
  have hl := lv_entry ([.ref b, .int k]) (n := 2) (Nat.le_of_ble_eq_true rfl)
  rw [lg_entry_eq]
  generalize (lg_sl ([.ref b, .int k]) ++ List.replicate (2 - (lg_sl ([.ref b, .int k])).length) Slot.unset).toArray = ls at hl ⊢
  have hl : lv_has ls 2 [(0, .ref b), (1, .int k)] := hl
  unfold f_L_cell at h
  refine lv_iload_n hx hb dL_cell_0 rfl (lv_at hl 1 rfl) ?_
  refine lv_aload_n hx hb dL_cell_1 rfl (lv_at hl 0 rfl) ?_
  refine va_slen hx hb hX hbl hbA hS dL_cell_2 ?_
  refine lv_icmp_ge (tgt := 12) hx hb dL_cell_3 (by decide) (fun c1 => ?_) (fun c1 => ?_)
  · have h := itT h c1
    refine lv_ldc (v := 40503) hx hb hown (hts _ wd1_214) dL_cell_12 ?_
    refine lv_iload_n hx hb dL_cell_14 rfl (lv_at hl 1 rfl) ?_
    refine lv_iconst (v := 3) hx hb dL_cell_15 (by decide) ?_
    refine lv_iadd hx hb dL_cell_16 ?_
    refine lv_imul hx hb dL_cell_17 ?_
    exact W.iret hx hb hr (fun t ht hW => ⟨⟨_, (), rfl, Option.some.inj h, by rw [ht]; exact hP, va_K.moved hW.alike hK, hD⟩, hS.F ht⟩) hS.2.2 dL_cell_18
  · have h := itF h c1
    obtain ⟨g1, h⟩ := chk_s h
    refine lv_aload_n hx hb dL_cell_6 rfl (lv_at hl 0 rfl) ?_
    refine lv_iload_n hx hb dL_cell_7 rfl (lv_at hl 1 rfl) ?_
    refine va_sld hx hb hX hbl hbA hS (gi_in g1) dL_cell_8 ?_
    refine lv_goto (tgt := 18) hx hb dL_cell_9 (by decide) ?_
    exact W.iret hx hb hr (fun t ht hW => ⟨⟨_, (), rfl, Option.some.inj h, by rw [ht]; exact hP, va_K.moved hW.alike hK, hD⟩, hS.F ht⟩) hS.2.2 dL_cell_18
theorem kcell {p : Program} {l : Launch} {e : Env} {R : Room} {s : State} {m : MethodId} {args : Array Value} {below : List Frame} {meth : Method} {c : Code} {H : Heap} {locs : List Loc} {cells slots : Nat} {Q : State → Prop}
    {cc : ByteArray} {pc nL : Nat} {ls : Array Slot} {rest st0 : List Value} {A : Nat → Prop} {D : va_G} {T : List (ClassId × FieldType)} {b L : Nat} {xs : Nat → Int32} {k r : Int32} {ws : va_W} {index : Nat} {lvs : List (Nat × Value)}
    (F : FX p m c cc nL s args RL D T A) (hX : va_X b L xs s s.heap) (hbl : b < s.heap.size) (hbA : ¬ A b) (hM : CTs l D T b L xs k r) (hw : Cond.methodLink RL index yL_cell ∈ wG ∧ Cond.static yL_cell ∈ wG)
    (hP : va_P D vwCl ws H) (hD : va_D A ws) (hS : va_S A s.heap H locs)
    (hroom : 0 + 1 ≤ R.frames ∧ 8 + (2 + 11) + 0 ≤ R.locals ∧ cells + 0 ≤ R.cells ∧ slots + 0 ≤ R.slots) (hsz : lv_has ls nL lvs) (hst : st0 = ([.ref b, .int k] : List Value).reverse ++ rest) (hrest : (rest.map fun v => v.category).sum ≤ 8) (hdg : decode cc pc = .ok (.invokestatic index, 3))
    (kk : ∀ (H1 : Heap) (locs1 : List Loc), va_P D vwCl ws H1 → va_D A ws → va_S A s.heap H1 locs1 → W p l e R s m args below meth c H1 locs1 cells slots Q (F0 m (pc + 3) ls (.int r :: rest))) : W p l e R s m args below meth c H locs cells slots Q (F0 m pc ls st0) := by
  have hPc : va_P D vwCl [] H := fun k q hk => by simp at hk
  have hDc : va_D A [] := ⟨fun i j p q h => by simp at h, fun k q h => by simp at h⟩
  have hF : ∀ q, va_A [] H.size q → A q := fun q h => by
    rcases h with ⟨k, e, h⟩ | h
    · simp at h
    · exact F.2.2.2.2.2.2.2 q (Nat.le_trans hS.1 h)
  have hbH : b < H.size := Nat.lt_of_lt_of_le hbl hS.1
  have hbl2 : FrameBlind (va_Pc [.ref b, .int k] (fun U => PC D T H.size [] U ∧ va_X b L xs U U.heap ∧ b < H.size)) := by
    intro a U g mk q
    obtain ⟨q0, ⟨q1, qP, qK, qD, qN⟩, qX, qb⟩ := q
    exact ⟨q0, ⟨q1, qP, va_K.moved (u := U) (U := U.calling g mk a) (Vm.Alike.refl U.vm) qK, qD, NW.same (u := U) (U := U.calling g mk a) rfl qN⟩, va_X.moved (u := U) (U := U.calling g mk a) (Vm.Alike.refl U.vm) qX, qb⟩
  have hpre : PreS s H (va_Pc [.ref b, .int k] (fun U => PC D T H.size [] U ∧ va_X b L xs U U.heap ∧ b < H.size)) ([.ref b, .int k]) :=
    ⟨hbl2, fun U hU hW => ⟨rfl, (preOk (av := []) F hPc hDc U hU hW).2, by rw [hU]; exact (hX.kept (hS.2.1 b hbl hbA)).moved hW.alike, hbH⟩⟩
  refine va_calli (va_runS (As := [.ref b, .int k]) (rest := rest) ⟨F.1, F.2.1, F.2.2.1, F.2.2.2.1, F.2.2.2.2.1⟩ (hM H.size) ⟨cbNf F yfL_cell hw.1 ⟨hroom.1, hroom.2.1⟩, F.2.2.2.2.1 _ hw.2⟩ hpre rfl rfl hsz.1 hst (lv_room hrest) hdg ⟨hroom.2.2.1, hroom.2.2.2⟩) hS (fun q _ h => hF q h) hF (fun r1 u t H1 locs1 ht hvm hw1 hB hz1 hk1 hS1 => ?_)
  have e1 : r1 = r := hw1
  subst e1
  refine kk H1 locs1 (fun k q hk => ?_) hD hS1
  have hlt := (hP k q hk).lt
  refine (hP k q hk).kept (hk1 q.1 hlt ?_)
  rintro (⟨k2, e2, h⟩ | h)
  · simp at h
  · omega
def f_L_law_L47 (N zlen : Nat) (zxs : Nat → Int32) (znc_47 : Nat) : Nat → Int32 → Int32 → XS → (Nat → Int32) → (Nat → Int32) → (Nat → Int32) → (Nat → Int32) → Option (Int32 × XS × (Nat → Int32) × (Nat → Int32) × (Nat → Int32) × (Nat → Int32))
  | 0, _, _, _, _, _, _, _ => none
  | n_47 + 1, x6_47, x7_47, zo_47, zg_47, zw_47, zr_47, ze_47 =>
    if 9 ≤ x7_47 then (some (x6_47, zo_47, zg_47, zw_47, zr_47, ze_47)) else (if x6_47 = 0 then (some (x6_47, zo_47, zg_47, zw_47, zr_47, ze_47)) else (chk (decide (znc_47 + 0 ≤ 10000)) (Option.bind (f_L_cell zlen zxs (1 + x7_47)) (fun q11 => Option.bind (α := Int32) (if 3 ≤ x7_47 then (if x7_47 = 3 then (some (19)) else (some (5))) else (some (0))) (fun q14 => chk (decide (znc_47 + 0 ≤ 10000)) (Option.bind (f_L_acts N ((((q11 &&& 2147483647) / 640) * 640) + q14) zo_47 zg_47 zw_47 zr_47 ze_47) (fun q19 => f_L_law_L47 N zlen zxs znc_47 n_47 q19.1 (x7_47 + 1) q19.2.1 q19.2.2.1 q19.2.2.2.1 q19.2.2.2.2.1 q19.2.2.2.2.2)))))))
def f_L_law_L163 (N zlen : Nat) (zxs : Nat → Int32) (x7_163 : Int32) : Nat → Int32 → Int32 → XS → (Nat → Int32) → (Nat → Int32) → (Nat → Int32) → (Nat → Int32) → Nat → Option (Int32 × XS × (Nat → Int32) × (Nat → Int32) × (Nat → Int32) × (Nat → Int32) × Nat)
  | 0, _, _, _, _, _, _, _, _ => none
  | n_163 + 1, x6_163, x8_163, zo_163, zg_163, zw_163, zr_163, ze_163, znc_163 =>
    if x7_163 ≤ x8_163 then (some (x6_163, zo_163, zg_163, zw_163, zr_163, ze_163, znc_163)) else (if x6_163 = 0 then (some (x6_163, zo_163, zg_163, zw_163, zr_163, ze_163, znc_163)) else (chk (decide (znc_163 + 0 ≤ 10000)) (Option.bind (f_L_cell zlen zxs (10 + x8_163)) (fun q41 => chk (decide (znc_163 + 0 ≤ 10000)) (Option.bind (f_L_acts N (q41 ^^^ (7919 * x8_163)) zo_163 zg_163 zw_163 zr_163 ze_163) (fun q44 => Option.bind (α := XS × Nat × Int32) (if q44.1 = 0 then (some (q44.2.1, znc_163, 0)) else (Option.bind (α := Int32) (if (x8_163 - x8_163 / 4 * 4) = 3 then (some (1)) else (some (0))) (fun q51 => chk (decide (znc_163 + 103 ≤ 10000)) (Option.bind (f_L_isSo N q51 q44.2.1 q44.2.2.1 q44.2.2.2.1 q44.2.2.2.2.1 q44.2.2.2.2.2) (fun q55 => if q55.1 = 0 then (some (q55.2, znc_163 + 103, 0)) else (some (q55.2, znc_163 + 103, 1))))))) (fun q47 => f_L_law_L163 N zlen zxs x7_163 n_163 q47.2.2 (x8_163 + 1) q47.1 q44.2.2.1 q44.2.2.2.1 q44.2.2.2.2.1 q44.2.2.2.2.2 q47.2.1)))))))
def f_L_law (N zlen : Nat) (zxs : Nat → Int32) (zo : XS) (zg : Nat → Int32) (zw : Nat → Int32) (zr : Nat → Int32) (ze : Nat → Int32) : Option Int32 :=
    chk (decide (60 + 0 ≤ 10000)) (Option.bind (x_count N 0 zo) (fun q2 => Option.bind (α := Int32) (if q2.1 = 0 then (some (1)) else (some (0))) (fun q5 => Option.bind (f_L_law_L47 N zlen zxs 60 N q5 0 q2.2 zg zw zr ze) (fun q23 => Option.bind (α := XS × Nat × Int32) (if q23.1 = 0 then (some (q23.2.1, 60, 0)) else (chk (decide (60 + 103 ≤ 10000)) (Option.bind (f_L_isSo N 1 q23.2.1 q23.2.2.1 q23.2.2.2.1 q23.2.2.2.2.1 q23.2.2.2.2.2) (fun q29 => if q29.1 = 0 then (some (q29.2, 60 + 103, 0)) else (some (q29.2, 60 + 103, 1)))))) (fun q25 => chk (decide (q25.2.1 + 0 ≤ 10000)) (Option.bind (f_L_cell zlen zxs 0) (fun q33 => chk (decide (q25.2.1 + 0 ≤ 10000)) (Option.bind (f_L_low N q33 36) (fun q36 => Option.bind (f_L_law_L163 N zlen zxs (8 + q36) N q25.2.2 0 q25.1 q23.2.2.1 q23.2.2.2.1 q23.2.2.2.2.1 q23.2.2.2.2.2 q25.2.1) (fun q61 => if q61.1 = 0 then (chk (decide (q61.2.2.2.2.2.2 ≤ 10000)) (some 0)) else (chk (decide (q61.2.2.2.2.2.2 + 0 ≤ 10000)) (Option.bind (x_count N 9 q61.2.1) (fun q65 => if q65.1 = (-1) then (chk (decide (q61.2.2.2.2.2.2 + 0 ≤ 10000)) (Option.bind (x_placeOf N (-1) 0 q65.2) (fun q70 => if q70.1 = (-1) then (chk (decide (q61.2.2.2.2.2.2 ≤ 10000)) (some 1)) else (chk (decide (q61.2.2.2.2.2.2 ≤ 10000)) (some 0))))) else (chk (decide (q61.2.2.2.2.2.2 ≤ 10000)) (some 0)))))))))))))))
set_option maxHeartbeats 4000000 in
set_option maxRecDepth 100000 in
theorem c_L_law {p : Program} {e : Env} {s : State} {m : MethodId} {args : Array Value} {below : List Frame} {meth : Method} {c : Code} {A : Nat → Prop} {Q : State → Prop} (l : Launch) (D : va_G) (cI cC cH : ClassId) (a_p0 zlen : Nat) (zxs : Nat → Int32) (hX : va_X a_p0 zlen zxs s s.heap) (hbl : a_p0 < s.heap.size) (hbA : ¬ A a_p0) (a_o : Nat) (ad : Nat → Nat) (a_g a_w a_r a_e : Nat) (N : Nat) (zo : XS) (zg : Nat → Int32) (zw : Nat → Int32) (zr : Nat → Int32) (ze : Nat → Int32) (y : Int32) (h : f_L_law N zlen zxs zo zg zw zr ze = some y) (F : FX p m c code 9 s args RL D (tyL cI cC cH) A)
    (hret : ∀ (v : Int32) (H : Heap) (locs : List Loc) (pc : Nat) (ls : Array Slot) (cells slots : Nat), narrow .boolean (.int v) = .int v → cells ≤ 10000 → slots ≤ 120000 → v = y → va_S A s.heap H locs → decode code pc = .ok (.ireturn, 1) → W p l e room_1 s m args below meth c H locs cells slots Q (F0 m pc ls [.int v])) :
    ∀ (ls : Array Slot) (H : Heap) (locs : List Loc), lv_has ls 9 [(0, .ref a_p0), (1, .ref a_o), (2, .ref a_g), (3, .ref a_w), (4, .ref a_r), (5, .ref a_e)] → va_P D vwCl (wO cI cC cH a_o ad zo ++ [(a_g, .inl (cI, 1, .inl zg)), (a_w, .inl (cI, 12, .inl zw)), (a_r, .inl (cI, 12, .inl zr)), (a_e, .inl (cI, 12, .inl ze))]) H → va_D A (wO cI cC cH a_o ad zo ++ [(a_g, .inl (cI, 1, .inl zg)), (a_w, .inl (cI, 12, .inl zw)), (a_r, .inl (cI, 12, .inl zr)), (a_e, .inl (cI, 12, .inl ze))]) → va_S A s.heap H locs → W p l e room_1 s m args below meth c H locs 60 720 Q (F0 m 29 ls []) := by
  intro ls H locs hl hP hD hS
  unfold f_L_law at h
  have hx := F.1
  have hb := F.2.1
  have hown : s.vm.findClass RL = some m.cls := F.2.2.2.1
  have hts := F.2.2.2.2.1
  have hN := F.2.2.2.2.2.1
  have hK := F.2.2.2.2.2.2.1
  have hA := F.2.2.2.2.2.2.2
  refine lv_aload_n hx hb dL_law_29 rfl (lv_at hl 1 rfl) ?_
  refine lv_iconst (v := 0) hx hb dL_law_30 (by decide) ?_
  obtain ⟨g1, h⟩ := chk_s h
  have g1 := of_decide_eq_true g1
  obtain ⟨q2, hq3, h⟩ := bd h
  refine lx4_count l D cI cC cH a_o ad N 0 zo q2 [] hq3 F hP hD hS hl ⟨Nat.le_of_ble_eq_true rfl, Nat.le_of_ble_eq_true rfl, (by show _ ≤ 629740; omega), (by show _ ≤ 7213027; omega)⟩ (Nat.le_of_ble_eq_true rfl) dL_law_31 (fun H locs hP hD hS => ?_)
  obtain ⟨q5, hb78, h⟩ := bd h
  have J6 : ∀ (ls : Array Slot) (H : Heap) (locs : List Loc), lv_has ls 9 [(0, .ref a_p0), (1, .ref a_o), (2, .ref a_g), (3, .ref a_w), (4, .ref a_r), (5, .ref a_e)] → va_P D vwCl (wO cI cC cH a_o ad q2.2 ++ [(a_g, .inl (cI, 1, .inl zg)), (a_w, .inl (cI, 12, .inl zw)), (a_r, .inl (cI, 12, .inl zr)), (a_e, .inl (cI, 12, .inl ze))]) H → va_D A (wO cI cC cH a_o ad q2.2 ++ [(a_g, .inl (cI, 1, .inl zg)), (a_w, .inl (cI, 12, .inl zw)), (a_r, .inl (cI, 12, .inl zr)), (a_e, .inl (cI, 12, .inl ze))]) → va_S A s.heap H locs → W p l e room_1 s m args below meth c H locs 60 (12 * 60) Q (F0 m 42 ls [.int q5]) := by
    intro ls H locs hl hP hD hS
    refine lv_istore (lv' := [(6, .int q5), (0, .ref a_p0), (1, .ref a_o), (2, .ref a_g), (3, .ref a_w), (4, .ref a_r), (5, .ref a_e)]) hx hb dL_law_42 hl (by decide) rfl (fun ls hl => ?_)
    refine lv_iconst (v := 0) hx hb dL_law_44 (by decide) ?_
    refine lv_istore (lv' := [(7, .int 0), (6, .int q5), (0, .ref a_p0), (1, .ref a_o), (2, .ref a_g), (3, .ref a_w), (4, .ref a_r), (5, .ref a_e)]) hx hb dL_law_45 hl (by decide) rfl (fun ls hl => ?_)
    have L_47 : ∀ (znc_47 : Nat), ∀ (n_47 : Nat) (x6_47 : Int32) (x7_47 : Int32) (zo_47 : XS) (zg_47 : Nat → Int32) (zw_47 : Nat → Int32) (zr_47 : Nat → Int32) (ze_47 : Nat → Int32) (q22 : (Int32 × XS × (Nat → Int32) × (Nat → Int32) × (Nat → Int32) × (Nat → Int32))), f_L_law_L47 N zlen zxs znc_47 n_47 x6_47 x7_47 zo_47 zg_47 zw_47 zr_47 ze_47 = some q22 → (∀ (ls : Array Slot) (H : Heap) (locs : List Loc), lv_has ls 9 [(0, .ref a_p0), (1, .ref a_o), (2, .ref a_g), (3, .ref a_w), (4, .ref a_r), (5, .ref a_e), (6, .int q22.1)] → va_P D vwCl (wO cI cC cH a_o ad q22.2.1 ++ [(a_g, .inl (cI, 1, .inl q22.2.2.1)), (a_w, .inl (cI, 12, .inl q22.2.2.2.1)), (a_r, .inl (cI, 12, .inl q22.2.2.2.2.1)), (a_e, .inl (cI, 12, .inl q22.2.2.2.2.2))]) H → va_D A (wO cI cC cH a_o ad q22.2.1 ++ [(a_g, .inl (cI, 1, .inl q22.2.2.1)), (a_w, .inl (cI, 12, .inl q22.2.2.2.1)), (a_r, .inl (cI, 12, .inl q22.2.2.2.2.1)), (a_e, .inl (cI, 12, .inl q22.2.2.2.2.2))]) → va_S A s.heap H locs → W p l e room_1 s m args below meth c H locs znc_47 (12 * znc_47) Q (F0 m 119 ls [])) → ∀ (ls : Array Slot) (H : Heap) (locs : List Loc), lv_has ls 9 [(0, .ref a_p0), (1, .ref a_o), (2, .ref a_g), (3, .ref a_w), (4, .ref a_r), (5, .ref a_e), (6, .int x6_47), (7, .int x7_47)] → va_P D vwCl (wO cI cC cH a_o ad zo_47 ++ [(a_g, .inl (cI, 1, .inl zg_47)), (a_w, .inl (cI, 12, .inl zw_47)), (a_r, .inl (cI, 12, .inl zr_47)), (a_e, .inl (cI, 12, .inl ze_47))]) H → va_D A (wO cI cC cH a_o ad zo_47 ++ [(a_g, .inl (cI, 1, .inl zg_47)), (a_w, .inl (cI, 12, .inl zw_47)), (a_r, .inl (cI, 12, .inl zr_47)), (a_e, .inl (cI, 12, .inl ze_47))]) → va_S A s.heap H locs → W p l e room_1 s m args below meth c H locs znc_47 (12 * znc_47) Q (F0 m 47 ls []) := by
      intro znc_47 n_47
      induction n_47 with
      | zero => intro x6_47 x7_47 zo_47 zg_47 zw_47 zr_47 ze_47 q22 h; exact no_s h
      | succ n_47 ih_47 =>
        intro x6_47 x7_47 zo_47 zg_47 zw_47 zr_47 ze_47 q22 h J_47 ls H locs hl hP hD hS
        rw [f_L_law_L47] at h
        refine lv_iload hx hb dL_law_47 (lv_at hl 7 rfl) ?_
        refine lv_bipush (v := 9) hx hb dL_law_49 (by decide) ?_
        refine lv_icmp_ge (tgt := 119) hx hb dL_law_51 (by decide) (fun c8 => ?_) (fun c8 => ?_)
        · have h := itT h c8
          obtain rfl := Option.some.inj h
          exact J_47 _ _ _ (lv_sub hl [0, 1, 2, 3, 4, 5, 6] rfl) hP hD hS
        · have h := itF h c8
          refine lv_iload hx hb dL_law_54 (lv_at hl 6 rfl) ?_
          refine lv_if_eq (tgt := 119) hx hb dL_law_56 (by decide) (fun c9 => ?_) (fun c9 => ?_)
          · have h := itT h c9
            obtain rfl := Option.some.inj h
            exact J_47 _ _ _ (lv_sub hl [0, 1, 2, 3, 4, 5, 6] rfl) hP hD hS
          · have h := itF h c9
            refine lv_aload_n hx hb dL_law_59 rfl (lv_at hl 1 rfl) ?_
            refine lv_aload_n hx hb dL_law_60 rfl (lv_at hl 2 rfl) ?_
            refine lv_aload_n hx hb dL_law_61 rfl (lv_at hl 3 rfl) ?_
            refine lv_aload hx hb dL_law_62 (lv_at hl 4 rfl) ?_
            refine lv_aload hx hb dL_law_64 (lv_at hl 5 rfl) ?_
            refine lv_aload_n hx hb dL_law_66 rfl (lv_at hl 0 rfl) ?_
            refine lv_iconst (v := 1) hx hb dL_law_67 (by decide) ?_
            refine lv_iload hx hb dL_law_68 (lv_at hl 7 rfl) ?_
            refine lv_iadd hx hb dL_law_70 ?_
            obtain ⟨g10, h⟩ := chk_s h
            have g10 := of_decide_eq_true g10
            obtain ⟨q11, hq12, h⟩ := bd h
            refine kcell (rest := [.ref a_e, .ref a_r, .ref a_w, .ref a_g, .ref a_o]) F hX hbl hbA (c_L_cell l D cI cC cH a_p0 zlen zxs (1 + x7_47) q11 hq12) ⟨wd1_211, wd1_212⟩ hP hD hS ⟨Nat.le_of_ble_eq_true rfl, Nat.le_of_ble_eq_true rfl, (by show _ ≤ 629740; omega), (by show _ ≤ 7213027; omega)⟩ hl rfl (Nat.le_of_ble_eq_true rfl) dL_law_71 (fun H locs hP hD hS => ?_)
            refine lv_ldc (v := 2147483647) hx hb hown (hts _ wd1_218) dL_law_74 ?_
            refine lv_iand hx hb dL_law_76 ?_
            refine lv_sipush (v := 640) hx hb dL_law_77 (by decide) ?_
            refine lv_idiv hx hb dL_law_80 (by decide) ?_
            refine lv_sipush (v := 640) hx hb dL_law_81 (by decide) ?_
            refine lv_imul hx hb dL_law_84 ?_
            refine lv_iload hx hb dL_law_85 (lv_at hl 7 rfl) ?_
            refine lv_iconst (v := 3) hx hb dL_law_87 (by decide) ?_
            obtain ⟨q14, hb21, h⟩ := bd h
            have J15 : ∀ (ls : Array Slot) (H : Heap) (locs : List Loc), lv_has ls 9 [(0, .ref a_p0), (1, .ref a_o), (2, .ref a_g), (3, .ref a_w), (4, .ref a_r), (5, .ref a_e), (7, .int x7_47)] → va_P D vwCl (wO cI cC cH a_o ad zo_47 ++ [(a_g, .inl (cI, 1, .inl zg_47)), (a_w, .inl (cI, 12, .inl zw_47)), (a_r, .inl (cI, 12, .inl zr_47)), (a_e, .inl (cI, 12, .inl ze_47))]) H → va_D A (wO cI cC cH a_o ad zo_47 ++ [(a_g, .inl (cI, 1, .inl zg_47)), (a_w, .inl (cI, 12, .inl zw_47)), (a_r, .inl (cI, 12, .inl zr_47)), (a_e, .inl (cI, 12, .inl ze_47))]) → va_S A s.heap H locs → W p l e room_1 s m args below meth c H locs znc_47 (12 * znc_47) Q (F0 m 107 ls [.int q14, .int (((q11 &&& 2147483647) / 640) * 640), .ref a_e, .ref a_r, .ref a_w, .ref a_g, .ref a_o]) := by
              intro ls H locs hl hP hD hS
              refine lv_iadd hx hb dL_law_107 ?_
              obtain ⟨g18, h⟩ := chk_s h
              have g18 := of_decide_eq_true g18
              obtain ⟨q19, hq20, h⟩ := bd h
              refine ksN (ws' := (wO cI cC cH a_o ad q19.2.1 ++ [(a_g, .inl (cI, 1, .inl q19.2.2.1)), (a_w, .inl (cI, 12, .inl q19.2.2.2.1)), (a_r, .inl (cI, 12, .inl q19.2.2.2.2.1)), (a_e, .inl (cI, 12, .inl q19.2.2.2.2.2))])) (wr := []) (rest := []) (As := [.ref a_o, .ref a_g, .ref a_w, .ref a_r, .ref a_e, .int ((((q11 &&& 2147483647) / 640) * 640) + q14)]) F (c_L_acts l D cI cC cH a_o ad a_g a_w a_r a_e N ((((q11 &&& 2147483647) / 640) * 640) + q14) zo_47 zg_47 zw_47 zr_47 ze_47 q19 hq20) yfL_acts ⟨wd1_219, wd1_220⟩ hP hD hS [0, 1, 2, 3, 4, 5, 6, 7, 8, 9, 10, 11, 12, 13, 14, 15, 16, 17, 18, 19, 20, 21, 22, 23, 24, 25, 26, 27, 28, 29, 30, 31, 32, 33, 34, 35, 36, 37, 38, 39, 40, 41, 42] [] [0, 1, 2, 3, 4, 5, 6, 7, 8, 9, 10, 11, 12, 13, 14, 15, 16, 17, 18, 19, 20, 21, 22, 23, 24, 25, 26, 27, 28, 29, 30, 31, 32, 33, 34, 35, 36, 37, 38, 39, 40, 41, 42] rfl rfl (by decide) (by decide) (by decide) rfl (by decide) ⟨Nat.le_of_ble_eq_true rfl, Nat.le_of_ble_eq_true rfl, (by show _ ≤ 629740; omega), (by show _ ≤ 7213027; omega)⟩ rfl hl rfl (Nat.le_of_ble_eq_true rfl) dL_law_108 (fun H locs hP hD hS => ?_)
              refine lv_istore (lv' := [(6, .int q19.1), (0, .ref a_p0), (1, .ref a_o), (2, .ref a_g), (3, .ref a_w), (4, .ref a_r), (5, .ref a_e), (7, .int x7_47)]) hx hb dL_law_111 hl (by decide) rfl (fun ls hl => ?_)
              refine lv_iinc (v := x7_47 + 1) (lv' := [(7, .int (x7_47 + 1)), (6, .int q19.1), (0, .ref a_p0), (1, .ref a_o), (2, .ref a_g), (3, .ref a_w), (4, .ref a_r), (5, .ref a_e)]) hx hb dL_law_113 hl (k := 7) rfl rfl (by decide) rfl (fun ls hl => ?_)
              refine lv_goto (tgt := 47) hx hb dL_law_116 (by decide) ?_
              exact ih_47 q19.1 (x7_47 + 1) q19.2.1 q19.2.2.1 q19.2.2.2.1 q19.2.2.2.2.1 q19.2.2.2.2.2 _ h J_47 _ _ _ (lv_sub hl [2, 3, 4, 5, 6, 7, 1, 0] rfl) hP hD hS
            clear h
            have h := hb21
            clear hb21
            refine lv_icmp_ge (tgt := 95) hx hb dL_law_88 (by decide) (fun c13 => ?_) (fun c13 => ?_)
            · have h := itT h c13
              refine lv_iload hx hb dL_law_95 (lv_at hl 7 rfl) ?_
              refine lv_iconst (v := 3) hx hb dL_law_97 (by decide) ?_
              refine lv_icmp_ne (tgt := 106) hx hb dL_law_98 (by decide) (fun c17 => ?_) (fun c17 => ?_)
              · have h := itF h c17
                refine lv_iconst (v := 5) hx hb dL_law_106 (by decide) ?_
                obtain rfl := Option.some.inj h
                exact J15 _ _ _ (lv_sub hl [0, 1, 2, 3, 4, 5, 7] rfl) hP hD hS
              · have h := itT h c17
                refine lv_bipush (v := 19) hx hb dL_law_101 (by decide) ?_
                refine lv_goto (tgt := 107) hx hb dL_law_103 (by decide) ?_
                obtain rfl := Option.some.inj h
                exact J15 _ _ _ (lv_sub hl [0, 1, 2, 3, 4, 5, 7] rfl) hP hD hS
            · have h := itF h c13
              refine lv_iconst (v := 0) hx hb dL_law_91 (by decide) ?_
              refine lv_goto (tgt := 107) hx hb dL_law_92 (by decide) ?_
              obtain rfl := Option.some.inj h
              exact J15 _ _ _ (lv_sub hl [0, 1, 2, 3, 4, 5, 7] rfl) hP hD hS
    obtain ⟨q23, hb77, h⟩ := bd h
    refine L_47 60 N q5 0 q2.2 zg zw zr ze q23 hb77 ?_ _ _ _ (lv_sub hl [2, 3, 4, 5, 6, 7, 1, 0] rfl) hP hD hS
    intro ls H locs hl hP hD hS
    refine lv_iload hx hb dL_law_119 (lv_at hl 6 rfl) ?_
    obtain ⟨q25, hb76, h⟩ := bd h
    have J26 : ∀ (ls : Array Slot) (H : Heap) (locs : List Loc), lv_has ls 9 [(0, .ref a_p0), (1, .ref a_o), (2, .ref a_g), (3, .ref a_w), (4, .ref a_r), (5, .ref a_e)] → va_P D vwCl (wO cI cC cH a_o ad q25.1 ++ [(a_g, .inl (cI, 1, .inl q23.2.2.1)), (a_w, .inl (cI, 12, .inl q23.2.2.2.1)), (a_r, .inl (cI, 12, .inl q23.2.2.2.2.1)), (a_e, .inl (cI, 12, .inl q23.2.2.2.2.2))]) H → va_D A (wO cI cC cH a_o ad q25.1 ++ [(a_g, .inl (cI, 1, .inl q23.2.2.1)), (a_w, .inl (cI, 12, .inl q23.2.2.2.1)), (a_r, .inl (cI, 12, .inl q23.2.2.2.2.1)), (a_e, .inl (cI, 12, .inl q23.2.2.2.2.2))]) → va_S A s.heap H locs → W p l e room_1 s m args below meth c H locs q25.2.1 (12 * q25.2.1) Q (F0 m 143 ls [.int q25.2.2]) := by
      intro ls H locs hl hP hD hS
      refine lv_istore (lv' := [(6, .int q25.2.2), (0, .ref a_p0), (1, .ref a_o), (2, .ref a_g), (3, .ref a_w), (4, .ref a_r), (5, .ref a_e)]) hx hb dL_law_143 hl (by decide) rfl (fun ls hl => ?_)
      refine lv_bipush (v := 8) hx hb dL_law_145 (by decide) ?_
      refine lv_aload_n hx hb dL_law_147 rfl (lv_at hl 1 rfl) ?_
      refine lv_iconst (v := 0) hx hb dL_law_148 (by decide) ?_
      obtain ⟨g32, h⟩ := chk_s h
      have g32 := of_decide_eq_true g32
      obtain ⟨q33, hq34, h⟩ := bd h
      refine kcell (rest := [.int 8]) F hX hbl hbA (c_L_cell l D cI cC cH a_p0 zlen zxs 0 q33 hq34) ⟨wd1_211, wd1_212⟩ hP hD hS ⟨Nat.le_of_ble_eq_true rfl, Nat.le_of_ble_eq_true rfl, (by show _ ≤ 629740; omega), (by show _ ≤ 7213027; omega)⟩ hl rfl (Nat.le_of_ble_eq_true rfl) dL_law_149 (fun H locs hP hD hS => ?_)
      refine lv_bipush (v := 36) hx hb dL_law_152 (by decide) ?_
      obtain ⟨g35, h⟩ := chk_s h
      have g35 := of_decide_eq_true g35
      obtain ⟨q36, hq37, h⟩ := bd h
      refine ks0N (rest := [.int 8]) (As := [.int q33, .int 36]) F (c_L_low l D cI cC cH  N q33 36 q36 hq37) yfL_low ⟨wd1_215, wd1_216⟩ hP hD hS ⟨Nat.le_of_ble_eq_true rfl, Nat.le_of_ble_eq_true rfl, (by show _ ≤ 629740; omega), (by show _ ≤ 7213027; omega)⟩ rfl hl rfl (Nat.le_of_ble_eq_true rfl) dL_law_154 (fun H locs hP hD hS => ?_)
      refine lv_iadd hx hb dL_law_157 ?_
      refine lv_istore (lv' := [(7, .int (8 + q36)), (6, .int q25.2.2), (0, .ref a_p0), (1, .ref a_o), (2, .ref a_g), (3, .ref a_w), (4, .ref a_r), (5, .ref a_e)]) hx hb dL_law_158 hl (by decide) rfl (fun ls hl => ?_)
      refine lv_iconst (v := 0) hx hb dL_law_160 (by decide) ?_
      refine lv_istore (lv' := [(8, .int 0), (7, .int (8 + q36)), (6, .int q25.2.2), (0, .ref a_p0), (1, .ref a_o), (2, .ref a_g), (3, .ref a_w), (4, .ref a_r), (5, .ref a_e)]) hx hb dL_law_161 hl (by decide) rfl (fun ls hl => ?_)
      have L_163 : ∀ (x7_163 : Int32), ∀ (n_163 : Nat) (x6_163 : Int32) (x8_163 : Int32) (zo_163 : XS) (zg_163 : Nat → Int32) (zw_163 : Nat → Int32) (zr_163 : Nat → Int32) (ze_163 : Nat → Int32) (znc_163 : Nat) (q60 : (Int32 × XS × (Nat → Int32) × (Nat → Int32) × (Nat → Int32) × (Nat → Int32) × Nat)), f_L_law_L163 N zlen zxs x7_163 n_163 x6_163 x8_163 zo_163 zg_163 zw_163 zr_163 ze_163 znc_163 = some q60 → (∀ (ls : Array Slot) (H : Heap) (locs : List Loc), lv_has ls 9 [(1, .ref a_o), (6, .int q60.1)] → va_P D vwCl (wO cI cC cH a_o ad q60.2.1 ++ [(a_g, .inl (cI, 1, .inl q60.2.2.1)), (a_w, .inl (cI, 12, .inl q60.2.2.2.1)), (a_r, .inl (cI, 12, .inl q60.2.2.2.2.1)), (a_e, .inl (cI, 12, .inl q60.2.2.2.2.2.1))]) H → va_D A (wO cI cC cH a_o ad q60.2.1 ++ [(a_g, .inl (cI, 1, .inl q60.2.2.1)), (a_w, .inl (cI, 12, .inl q60.2.2.2.1)), (a_r, .inl (cI, 12, .inl q60.2.2.2.2.1)), (a_e, .inl (cI, 12, .inl q60.2.2.2.2.2.1))]) → va_S A s.heap H locs → W p l e room_1 s m args below meth c H locs q60.2.2.2.2.2.2 (12 * q60.2.2.2.2.2.2) Q (F0 m 243 ls [])) → ∀ (ls : Array Slot) (H : Heap) (locs : List Loc), lv_has ls 9 [(0, .ref a_p0), (1, .ref a_o), (2, .ref a_g), (3, .ref a_w), (4, .ref a_r), (5, .ref a_e), (6, .int x6_163), (7, .int x7_163), (8, .int x8_163)] → va_P D vwCl (wO cI cC cH a_o ad zo_163 ++ [(a_g, .inl (cI, 1, .inl zg_163)), (a_w, .inl (cI, 12, .inl zw_163)), (a_r, .inl (cI, 12, .inl zr_163)), (a_e, .inl (cI, 12, .inl ze_163))]) H → va_D A (wO cI cC cH a_o ad zo_163 ++ [(a_g, .inl (cI, 1, .inl zg_163)), (a_w, .inl (cI, 12, .inl zw_163)), (a_r, .inl (cI, 12, .inl zr_163)), (a_e, .inl (cI, 12, .inl ze_163))]) → va_S A s.heap H locs → W p l e room_1 s m args below meth c H locs znc_163 (12 * znc_163) Q (F0 m 163 ls []) := by
        intro x7_163 n_163
        induction n_163 with
        | zero => intro x6_163 x8_163 zo_163 zg_163 zw_163 zr_163 ze_163 znc_163 q60 h; exact no_s h
        | succ n_163 ih_163 =>
          intro x6_163 x8_163 zo_163 zg_163 zw_163 zr_163 ze_163 znc_163 q60 h J_163 ls H locs hl hP hD hS
          rw [f_L_law_L163] at h
          refine lv_iload hx hb dL_law_163 (lv_at hl 8 rfl) ?_
          refine lv_iload hx hb dL_law_165 (lv_at hl 7 rfl) ?_
          refine lv_icmp_ge (tgt := 243) hx hb dL_law_167 (by decide) (fun c38 => ?_) (fun c38 => ?_)
          · have h := itT h c38
            obtain rfl := Option.some.inj h
            exact J_163 _ _ _ (lv_sub hl [1, 6] rfl) hP hD hS
          · have h := itF h c38
            refine lv_iload hx hb dL_law_170 (lv_at hl 6 rfl) ?_
            refine lv_if_eq (tgt := 243) hx hb dL_law_172 (by decide) (fun c39 => ?_) (fun c39 => ?_)
            · have h := itT h c39
              obtain rfl := Option.some.inj h
              exact J_163 _ _ _ (lv_sub hl [1, 6] rfl) hP hD hS
            · have h := itF h c39
              refine lv_aload_n hx hb dL_law_175 rfl (lv_at hl 1 rfl) ?_
              refine lv_aload_n hx hb dL_law_176 rfl (lv_at hl 2 rfl) ?_
              refine lv_aload_n hx hb dL_law_177 rfl (lv_at hl 3 rfl) ?_
              refine lv_aload hx hb dL_law_178 (lv_at hl 4 rfl) ?_
              refine lv_aload hx hb dL_law_180 (lv_at hl 5 rfl) ?_
              refine lv_aload_n hx hb dL_law_182 rfl (lv_at hl 0 rfl) ?_
              refine lv_bipush (v := 10) hx hb dL_law_183 (by decide) ?_
              refine lv_iload hx hb dL_law_185 (lv_at hl 8 rfl) ?_
              refine lv_iadd hx hb dL_law_187 ?_
              obtain ⟨g40, h⟩ := chk_s h
              have g40 := of_decide_eq_true g40
              obtain ⟨q41, hq42, h⟩ := bd h
              refine kcell (rest := [.ref a_e, .ref a_r, .ref a_w, .ref a_g, .ref a_o]) F hX hbl hbA (c_L_cell l D cI cC cH a_p0 zlen zxs (10 + x8_163) q41 hq42) ⟨wd1_211, wd1_212⟩ hP hD hS ⟨Nat.le_of_ble_eq_true rfl, Nat.le_of_ble_eq_true rfl, (by show _ ≤ 629740; omega), (by show _ ≤ 7213027; omega)⟩ hl rfl (Nat.le_of_ble_eq_true rfl) dL_law_188 (fun H locs hP hD hS => ?_)
              refine lv_sipush (v := 7919) hx hb dL_law_191 (by decide) ?_
              refine lv_iload hx hb dL_law_194 (lv_at hl 8 rfl) ?_
              refine lv_imul hx hb dL_law_196 ?_
              refine lv_ixor hx hb dL_law_197 ?_
              obtain ⟨g43, h⟩ := chk_s h
              have g43 := of_decide_eq_true g43
              obtain ⟨q44, hq45, h⟩ := bd h
              refine ksN (ws' := (wO cI cC cH a_o ad q44.2.1 ++ [(a_g, .inl (cI, 1, .inl q44.2.2.1)), (a_w, .inl (cI, 12, .inl q44.2.2.2.1)), (a_r, .inl (cI, 12, .inl q44.2.2.2.2.1)), (a_e, .inl (cI, 12, .inl q44.2.2.2.2.2))])) (wr := []) (rest := []) (As := [.ref a_o, .ref a_g, .ref a_w, .ref a_r, .ref a_e, .int (q41 ^^^ (7919 * x8_163))]) F (c_L_acts l D cI cC cH a_o ad a_g a_w a_r a_e N (q41 ^^^ (7919 * x8_163)) zo_163 zg_163 zw_163 zr_163 ze_163 q44 hq45) yfL_acts ⟨wd1_219, wd1_220⟩ hP hD hS [0, 1, 2, 3, 4, 5, 6, 7, 8, 9, 10, 11, 12, 13, 14, 15, 16, 17, 18, 19, 20, 21, 22, 23, 24, 25, 26, 27, 28, 29, 30, 31, 32, 33, 34, 35, 36, 37, 38, 39, 40, 41, 42] [] [0, 1, 2, 3, 4, 5, 6, 7, 8, 9, 10, 11, 12, 13, 14, 15, 16, 17, 18, 19, 20, 21, 22, 23, 24, 25, 26, 27, 28, 29, 30, 31, 32, 33, 34, 35, 36, 37, 38, 39, 40, 41, 42] rfl rfl (by decide) (by decide) (by decide) rfl (by decide) ⟨Nat.le_of_ble_eq_true rfl, Nat.le_of_ble_eq_true rfl, (by show _ ≤ 629740; omega), (by show _ ≤ 7213027; omega)⟩ rfl hl rfl (Nat.le_of_ble_eq_true rfl) dL_law_198 (fun H locs hP hD hS => ?_)
              obtain ⟨q47, hb59, h⟩ := bd h
              have J48 : ∀ (ls : Array Slot) (H : Heap) (locs : List Loc), lv_has ls 9 [(0, .ref a_p0), (1, .ref a_o), (2, .ref a_g), (3, .ref a_w), (4, .ref a_r), (5, .ref a_e), (7, .int x7_163), (8, .int x8_163)] → va_P D vwCl (wO cI cC cH a_o ad q47.1 ++ [(a_g, .inl (cI, 1, .inl q44.2.2.1)), (a_w, .inl (cI, 12, .inl q44.2.2.2.1)), (a_r, .inl (cI, 12, .inl q44.2.2.2.2.1)), (a_e, .inl (cI, 12, .inl q44.2.2.2.2.2))]) H → va_D A (wO cI cC cH a_o ad q47.1 ++ [(a_g, .inl (cI, 1, .inl q44.2.2.1)), (a_w, .inl (cI, 12, .inl q44.2.2.2.1)), (a_r, .inl (cI, 12, .inl q44.2.2.2.2.1)), (a_e, .inl (cI, 12, .inl q44.2.2.2.2.2))]) → va_S A s.heap H locs → W p l e room_1 s m args below meth c H locs q47.2.1 (12 * q47.2.1) Q (F0 m 235 ls [.int q47.2.2]) := by
                intro ls H locs hl hP hD hS
                refine lv_istore (lv' := [(6, .int q47.2.2), (0, .ref a_p0), (1, .ref a_o), (2, .ref a_g), (3, .ref a_w), (4, .ref a_r), (5, .ref a_e), (7, .int x7_163), (8, .int x8_163)]) hx hb dL_law_235 hl (by decide) rfl (fun ls hl => ?_)
                refine lv_iinc (v := x8_163 + 1) (lv' := [(8, .int (x8_163 + 1)), (6, .int q47.2.2), (0, .ref a_p0), (1, .ref a_o), (2, .ref a_g), (3, .ref a_w), (4, .ref a_r), (5, .ref a_e), (7, .int x7_163)]) hx hb dL_law_237 hl (k := 8) rfl rfl (by decide) rfl (fun ls hl => ?_)
                refine lv_goto (tgt := 163) hx hb dL_law_240 (by decide) ?_
                exact ih_163 q47.2.2 (x8_163 + 1) q47.1 q44.2.2.1 q44.2.2.2.1 q44.2.2.2.2.1 q44.2.2.2.2.2 q47.2.1 _ h J_163 _ _ _ (lv_sub hl [2, 3, 4, 5, 6, 7, 1, 8, 0] rfl) hP hD hS
              clear h
              have h := hb59
              clear hb59
              refine lv_if_eq (tgt := 234) hx hb dL_law_201 (by decide) (fun c46 => ?_) (fun c46 => ?_)
              · have h := itT h c46
                refine lv_iconst (v := 0) hx hb dL_law_234 (by decide) ?_
                obtain rfl := Option.some.inj h
                exact J48 _ _ _ (lv_sub hl [0, 1, 2, 3, 4, 5, 7, 8] rfl) hP hD hS
              · have h := itF h c46
                refine lv_aload_n hx hb dL_law_204 rfl (lv_at hl 1 rfl) ?_
                refine lv_aload_n hx hb dL_law_205 rfl (lv_at hl 2 rfl) ?_
                refine lv_aload_n hx hb dL_law_206 rfl (lv_at hl 3 rfl) ?_
                refine lv_aload hx hb dL_law_207 (lv_at hl 4 rfl) ?_
                refine lv_aload hx hb dL_law_209 (lv_at hl 5 rfl) ?_
                refine lv_iload hx hb dL_law_211 (lv_at hl 8 rfl) ?_
                refine lv_iconst (v := 4) hx hb dL_law_213 (by decide) ?_
                refine lv_irem hx hb dL_law_214 (by decide) ?_
                refine lv_iconst (v := 3) hx hb dL_law_215 (by decide) ?_
                obtain ⟨q51, hb58, h⟩ := bd h
                have J52 : ∀ (ls : Array Slot) (H : Heap) (locs : List Loc), lv_has ls 9 [(0, .ref a_p0), (1, .ref a_o), (2, .ref a_g), (3, .ref a_w), (4, .ref a_r), (5, .ref a_e), (7, .int x7_163), (8, .int x8_163)] → va_P D vwCl (wO cI cC cH a_o ad q44.2.1 ++ [(a_g, .inl (cI, 1, .inl q44.2.2.1)), (a_w, .inl (cI, 12, .inl q44.2.2.2.1)), (a_r, .inl (cI, 12, .inl q44.2.2.2.2.1)), (a_e, .inl (cI, 12, .inl q44.2.2.2.2.2))]) H → va_D A (wO cI cC cH a_o ad q44.2.1 ++ [(a_g, .inl (cI, 1, .inl q44.2.2.1)), (a_w, .inl (cI, 12, .inl q44.2.2.2.1)), (a_r, .inl (cI, 12, .inl q44.2.2.2.2.1)), (a_e, .inl (cI, 12, .inl q44.2.2.2.2.2))]) → va_S A s.heap H locs → W p l e room_1 s m args below meth c H locs znc_163 (12 * znc_163) Q (F0 m 224 ls [.int q51, .ref a_e, .ref a_r, .ref a_w, .ref a_g, .ref a_o]) := by
                  intro ls H locs hl hP hD hS
                  obtain ⟨g54, h⟩ := chk_s h
                  have g54 := of_decide_eq_true g54
                  obtain ⟨q55, hq56, h⟩ := bd h
                  refine ksN (ws' := (wO cI cC cH a_o ad q55.2 ++ [(a_g, .inl (cI, 1, .inl q44.2.2.1)), (a_w, .inl (cI, 12, .inl q44.2.2.2.1)), (a_r, .inl (cI, 12, .inl q44.2.2.2.2.1)), (a_e, .inl (cI, 12, .inl q44.2.2.2.2.2))])) (wr := []) (rest := []) (As := [.ref a_o, .ref a_g, .ref a_w, .ref a_r, .ref a_e, .int q51]) F (c_L_isSo l D cI cC cH a_o ad a_g a_w a_r a_e N q51 q44.2.1 q44.2.2.1 q44.2.2.2.1 q44.2.2.2.2.1 q44.2.2.2.2.2 q55 hq56) yfL_isSo ⟨wd2_99, wd2_100⟩ hP hD hS [0, 1, 2, 3, 4, 5, 6, 7, 8, 9, 10, 11, 12, 13, 14, 15, 16, 17, 18, 19, 20, 21, 22, 23, 24, 25, 26, 27, 28, 29, 30, 31, 32, 33, 34, 35, 36, 37, 38, 39, 40, 41, 42] [] [0, 1, 2, 3, 4, 5, 6, 7, 8, 9, 10, 11, 12, 13, 14, 15, 16, 17, 18, 19, 20, 21, 22, 23, 24, 25, 26, 27, 28, 29, 30, 31, 32, 33, 34, 35, 36, 37, 38, 39, 40, 41, 42] rfl rfl (by decide) (by decide) (by decide) rfl (by decide) ⟨Nat.le_of_ble_eq_true rfl, Nat.le_of_ble_eq_true rfl, (by show _ ≤ 629740; omega), (by show _ ≤ 7213027; omega)⟩ rfl hl rfl (Nat.le_of_ble_eq_true rfl) dL_law_224 (fun H locs hP hD hS => ?_)
                  refine W.widen (k := znc_163 + 103) (n := 12 * (znc_163 + 103)) (by omega) (by omega) ?_
                  refine lv_if_eq (tgt := 234) hx hb dL_law_227 (by decide) (fun c57 => ?_) (fun c57 => ?_)
                  · have h := itT h c57
                    refine lv_iconst (v := 0) hx hb dL_law_234 (by decide) ?_
                    obtain rfl := Option.some.inj h
                    exact J48 _ _ _ (lv_sub hl [0, 1, 2, 3, 4, 5, 6, 7] rfl) hP hD hS
                  · have h := itF h c57
                    refine lv_iconst (v := 1) hx hb dL_law_230 (by decide) ?_
                    refine lv_goto (tgt := 235) hx hb dL_law_231 (by decide) ?_
                    obtain rfl := Option.some.inj h
                    exact J48 _ _ _ (lv_sub hl [0, 1, 2, 3, 4, 5, 6, 7] rfl) hP hD hS
                clear h
                have h := hb58
                clear hb58
                refine lv_icmp_ne (tgt := 223) hx hb dL_law_216 (by decide) (fun c50 => ?_) (fun c50 => ?_)
                · have h := itF h c50
                  refine lv_iconst (v := 0) hx hb dL_law_223 (by decide) ?_
                  obtain rfl := Option.some.inj h
                  exact J52 _ _ _ (lv_sub hl [0, 1, 2, 3, 4, 5, 7, 8] rfl) hP hD hS
                · have h := itT h c50
                  refine lv_iconst (v := 1) hx hb dL_law_219 (by decide) ?_
                  refine lv_goto (tgt := 224) hx hb dL_law_220 (by decide) ?_
                  obtain rfl := Option.some.inj h
                  exact J52 _ _ _ (lv_sub hl [0, 1, 2, 3, 4, 5, 7, 8] rfl) hP hD hS
      obtain ⟨q61, hb75, h⟩ := bd h
      refine L_163 (8 + q36) N q25.2.2 0 q25.1 q23.2.2.1 q23.2.2.2.1 q23.2.2.2.2.1 q23.2.2.2.2.2 q25.2.1 q61 hb75 ?_ _ _ _ (lv_sub hl [3, 4, 5, 6, 7, 8, 2, 1, 0] rfl) hP hD hS
      intro ls H locs hl hP hD hS
      refine lv_iload hx hb dL_law_243 (lv_at hl 1 rfl) ?_
      refine lv_if_eq (tgt := 272) hx hb dL_law_245 (by decide) (fun c62 => ?_) (fun c62 => ?_)
      · have h := itT h c62
        refine lv_iconst (v := 0) hx hb dL_law_272 (by decide) ?_
        obtain ⟨g63, h⟩ := chk_s h
        have g63 := of_decide_eq_true g63
        obtain rfl := Option.some.inj h
        exact hret _ _ _ _ _ _ _ rfl (by omega) (by omega) rfl  hS dL_law_273
      · have h := itF h c62
        refine lv_aload_n hx hb dL_law_248 rfl (lv_at hl 0 rfl) ?_
        refine lv_bipush (v := 9) hx hb dL_law_249 (by decide) ?_
        obtain ⟨g64, h⟩ := chk_s h
        have g64 := of_decide_eq_true g64
        obtain ⟨q65, hq66, h⟩ := bd h
        refine lx4_count l D cI cC cH a_o ad N 9 q61.2.1 q65 [] hq66 F hP hD hS hl ⟨Nat.le_of_ble_eq_true rfl, Nat.le_of_ble_eq_true rfl, (by show _ ≤ 629740; omega), (by show _ ≤ 7213027; omega)⟩ (Nat.le_of_ble_eq_true rfl) dL_law_251 (fun H locs hP hD hS => ?_)
        refine lv_iconst (v := (-1)) hx hb dL_law_254 (by decide) ?_
        refine lv_icmp_ne (tgt := 272) hx hb dL_law_255 (by decide) (fun c67 => ?_) (fun c67 => ?_)
        · have h := itF h c67
          refine lv_iconst (v := 0) hx hb dL_law_272 (by decide) ?_
          obtain ⟨g68, h⟩ := chk_s h
          have g68 := of_decide_eq_true g68
          obtain rfl := Option.some.inj h
          exact hret _ _ _ _ _ _ _ rfl (by omega) (by omega) rfl  hS dL_law_273
        · have h := itT h c67
          refine lv_aload_n hx hb dL_law_258 rfl (lv_at hl 0 rfl) ?_
          refine lv_iconst (v := (-1)) hx hb dL_law_259 (by decide) ?_
          refine lv_iconst (v := 0) hx hb dL_law_260 (by decide) ?_
          obtain ⟨g69, h⟩ := chk_s h
          have g69 := of_decide_eq_true g69
          obtain ⟨q70, hq71, h⟩ := bd h
          refine lx4_placeOf l D cI cC cH a_o ad N (-1) 0 q65.2 q70 [] hq71 F hP hD hS hl ⟨Nat.le_of_ble_eq_true rfl, Nat.le_of_ble_eq_true rfl, (by show _ ≤ 629740; omega), (by show _ ≤ 7213027; omega)⟩ (Nat.le_of_ble_eq_true rfl) dL_law_261 (fun H locs hP hD hS => ?_)
          refine lv_iconst (v := (-1)) hx hb dL_law_264 (by decide) ?_
          refine lv_icmp_ne (tgt := 272) hx hb dL_law_265 (by decide) (fun c72 => ?_) (fun c72 => ?_)
          · have h := itF h c72
            refine lv_iconst (v := 0) hx hb dL_law_272 (by decide) ?_
            obtain ⟨g73, h⟩ := chk_s h
            have g73 := of_decide_eq_true g73
            obtain rfl := Option.some.inj h
            exact hret _ _ _ _ _ _ _ rfl (by omega) (by omega) rfl  hS dL_law_273
          · have h := itT h c72
            refine lv_iconst (v := 1) hx hb dL_law_268 (by decide) ?_
            refine lv_goto (tgt := 273) hx hb dL_law_269 (by decide) ?_
            obtain ⟨g74, h⟩ := chk_s h
            have g74 := of_decide_eq_true g74
            obtain rfl := Option.some.inj h
            exact hret _ _ _ _ _ _ _ rfl (by omega) (by omega) rfl  hS dL_law_273
    clear h
    have h := hb76
    clear hb76
    refine lv_if_eq (tgt := 142) hx hb dL_law_121 (by decide) (fun c24 => ?_) (fun c24 => ?_)
    · have h := itT h c24
      refine lv_iconst (v := 0) hx hb dL_law_142 (by decide) ?_
      obtain rfl := Option.some.inj h
      exact J26 _ _ _ (lv_sub hl [0, 1, 2, 3, 4, 5] rfl) hP hD hS
    · have h := itF h c24
      refine lv_aload_n hx hb dL_law_124 rfl (lv_at hl 1 rfl) ?_
      refine lv_aload_n hx hb dL_law_125 rfl (lv_at hl 2 rfl) ?_
      refine lv_aload_n hx hb dL_law_126 rfl (lv_at hl 3 rfl) ?_
      refine lv_aload hx hb dL_law_127 (lv_at hl 4 rfl) ?_
      refine lv_aload hx hb dL_law_129 (lv_at hl 5 rfl) ?_
      refine lv_iconst (v := 1) hx hb dL_law_131 (by decide) ?_
      obtain ⟨g28, h⟩ := chk_s h
      have g28 := of_decide_eq_true g28
      obtain ⟨q29, hq30, h⟩ := bd h
      refine ksN (ws' := (wO cI cC cH a_o ad q29.2 ++ [(a_g, .inl (cI, 1, .inl q23.2.2.1)), (a_w, .inl (cI, 12, .inl q23.2.2.2.1)), (a_r, .inl (cI, 12, .inl q23.2.2.2.2.1)), (a_e, .inl (cI, 12, .inl q23.2.2.2.2.2))])) (wr := []) (rest := []) (As := [.ref a_o, .ref a_g, .ref a_w, .ref a_r, .ref a_e, .int 1]) F (c_L_isSo l D cI cC cH a_o ad a_g a_w a_r a_e N 1 q23.2.1 q23.2.2.1 q23.2.2.2.1 q23.2.2.2.2.1 q23.2.2.2.2.2 q29 hq30) yfL_isSo ⟨wd2_99, wd2_100⟩ hP hD hS [0, 1, 2, 3, 4, 5, 6, 7, 8, 9, 10, 11, 12, 13, 14, 15, 16, 17, 18, 19, 20, 21, 22, 23, 24, 25, 26, 27, 28, 29, 30, 31, 32, 33, 34, 35, 36, 37, 38, 39, 40, 41, 42] [] [0, 1, 2, 3, 4, 5, 6, 7, 8, 9, 10, 11, 12, 13, 14, 15, 16, 17, 18, 19, 20, 21, 22, 23, 24, 25, 26, 27, 28, 29, 30, 31, 32, 33, 34, 35, 36, 37, 38, 39, 40, 41, 42] rfl rfl (by decide) (by decide) (by decide) rfl (by decide) ⟨Nat.le_of_ble_eq_true rfl, Nat.le_of_ble_eq_true rfl, (by show _ ≤ 629740; omega), (by show _ ≤ 7213027; omega)⟩ rfl hl rfl (Nat.le_of_ble_eq_true rfl) dL_law_132 (fun H locs hP hD hS => ?_)
      refine W.widen (k := 60 + 103) (n := 12 * (60 + 103)) (by omega) (by omega) ?_
      refine lv_if_eq (tgt := 142) hx hb dL_law_135 (by decide) (fun c31 => ?_) (fun c31 => ?_)
      · have h := itT h c31
        refine lv_iconst (v := 0) hx hb dL_law_142 (by decide) ?_
        obtain rfl := Option.some.inj h
        exact J26 _ _ _ (lv_sub hl [0, 1, 2, 3, 4, 5] rfl) hP hD hS
      · have h := itF h c31
        refine lv_iconst (v := 1) hx hb dL_law_138 (by decide) ?_
        refine lv_goto (tgt := 143) hx hb dL_law_139 (by decide) ?_
        obtain rfl := Option.some.inj h
        exact J26 _ _ _ (lv_sub hl [0, 1, 2, 3, 4, 5] rfl) hP hD hS
  clear h
  have h := hb78
  clear hb78
  refine lv_if_ne (tgt := 41) hx hb dL_law_34 (by decide) (fun c4 => ?_) (fun c4 => ?_)
  · have h := itF h c4
    refine lv_iconst (v := 0) hx hb dL_law_41 (by decide) ?_
    obtain rfl := Option.some.inj h
    exact J6 _ _ _ (lv_sub hl [0, 1, 2, 3, 4, 5] rfl) hP hD hS
  · have h := itT h c4
    refine lv_iconst (v := 1) hx hb dL_law_37 (by decide) ?_
    refine lv_goto (tgt := 42) hx hb dL_law_38 (by decide) ?_
    obtain rfl := Option.some.inj h
    exact J6 _ _ _ (lv_sub hl [0, 1, 2, 3, 4, 5] rfl) hP hD hS
