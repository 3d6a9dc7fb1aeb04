def f_L_areChoices_L12 (N : Nat) (zp1_12 : Nat → Int32) (zp4_12 : Nat → Int32) : Nat → Int32 → (Nat → Int32) → Option ((Nat → Int32))
  | 0, _, _ => none
  | n_12 + 1, x8_12, znew_12 =>
    chk (gi 0 1) (if (zp1_12 (Int32.toNatClampNeg 0)) ≤ x8_12 then (some znew_12) else (chk (gi x8_12 12) (chk (gi x8_12 12) (f_L_areChoices_L12 N zp1_12 zp4_12 n_12 (x8_12 + 1) (upd znew_12 (Int32.toNatClampNeg x8_12) (zp4_12 (Int32.toNatClampNeg x8_12)))))))
def f_L_areChoices_L89 (N : Nat) (x8_89 : Int32) (zp4_89 : Nat → Int32) : Nat → Int32 → Option (Int32)
  | 0, _ => none
  | n_89 + 1, x10_89 =>
    chk (gi x8_89 12) (if (((zp4_89 (Int32.toNatClampNeg x8_89)) >>> (x10_89 &&& 31)) &&& 1) = 0 then (f_L_areChoices_L89 N x8_89 zp4_89 n_89 (x10_89 + 1)) else (some x10_89))
def f_L_areChoices_L183 (N : Nat) (x5_183 : Int32) (x8_183 : Int32) (x9_183 : Int32) (x11_183 : Int32) (zp1_183 : Nat → Int32) (zp2_183 : Nat → Int32) (zp3_183 : Nat → Int32) (zp4_183 : Nat → Int32) : Nat → Int32 → Int32 → (Nat → Int32) → Nat → Option (Int32 × (Nat → Int32) × Nat)
  | 0, _, _, _, _ => none
  | n_183 + 1, x7_183, x12_183, znew_183, znc_183 =>
    if x9_183 ≤ x12_183 then (some (x7_183, znew_183, znc_183)) else (if x7_183 = 0 then (some (x7_183, znew_183, znc_183)) else (if x11_183 = 0 then (some (x7_183, znew_183, znc_183)) else (chk (gi x8_183 12) (chk (gi x8_183 12) (Option.bind (α := Nat × Int32) (if (((zp4_183 (Int32.toNatClampNeg x8_183)) >>> (x12_183 &&& 31)) &&& 1) = 0 then (some (znc_183, 1)) else (chk (decide (znc_183 + 1 ≤ 101)) (Option.bind (f_L_won N zp1_183 zp2_183 zp3_183 (upd znew_183 (Int32.toNatClampNeg x8_183) ((1 : Int32) <<< (x12_183 &&& 31)))) (fun q47 => if q47 = x5_183 then (some (znc_183 + 1, 0)) else (some (znc_183 + 1, 1)))))) (fun q43 => f_L_areChoices_L183 N x5_183 x8_183 x9_183 x11_183 zp1_183 zp2_183 zp3_183 zp4_183 n_183 q43.2 (x12_183 + 1) (upd znew_183 (Int32.toNatClampNeg x8_183) ((1 : Int32) <<< (x12_183 &&& 31))) q43.1))))))
def f_L_areChoices_L39 (N : Nat) (x5_39 : Int32) (zp1_39 : Nat → Int32) (zp2_39 : Nat → Int32) (zp3_39 : Nat → Int32) (zp4_39 : Nat → Int32) : Nat → Int32 → Int32 → XS → (Nat → Int32) → Nat → Option (Int32 × XS × (Nat → Int32) × Nat)
  | 0, _, _, _, _, _ => none
  | n_39 + 1, x7_39, x8_39, zp0_39, znew_39, znc_39 =>
    chk (gi 0 1) (if (zp1_39 (Int32.toNatClampNeg 0)) ≤ x8_39 then (some (x7_39, zp0_39, znew_39, znc_39)) else (if x7_39 = 0 then (some (x7_39, zp0_39, znew_39, znc_39)) else (chk (decide (znc_39 + 0 ≤ 101)) (Option.bind (x_placeOf N x8_39 5 zp0_39) (fun q11 => chk (gi x8_39 12) (Option.bind (α := Int32 × (Nat → Int32) × Nat) (if (zp4_39 (Int32.toNatClampNeg x8_39)) = 0 then (Option.bind (α := Int32) (if q11.1 = (-4) then (some (1)) else (some (0))) (fun q77 => some (q77, znew_39, znc_39))) else (Option.bind (f_L_areChoices_L89 N x8_39 zp4_39 N 0) (fun q21 => chk (gi x8_39 12) (Option.bind (α := Int32) (if ((x5_39 >>> (x8_39 &&& 31)) &&& 1) = (1 - (zp2_39 (Int32.toNatClampNeg x8_39))) then (some (1)) else (some (0))) (fun q24 => Option.bind (α := Int32) (if q11.1 < q21 then (some (0)) else (chk (gi 0 1) (if (zp1_39 (Int32.toNatClampNeg 0)) ≤ q11.1 then (some (0)) else (chk (gi x8_39 12) (if (((zp4_39 (Int32.toNatClampNeg x8_39)) >>> (q11.1 &&& 31)) &&& 1) = 1 then (if q24 = 0 then (if q11.1 = q21 then (some (1)) else (some (0))) else (some (1))) else (some (0))))))) (fun q28 => Option.bind (f_L_areChoices_L183 N x5_39 x8_39 q11.1 q24 zp1_39 zp2_39 zp3_39 zp4_39 N q28 q21 znew_39 znc_39) (fun q52 => Option.bind (α := Int32) (if q52.1 = 0 then (chk (gi x8_39 12) (some (zp4_39 (Int32.toNatClampNeg x8_39)))) else (if q24 = 0 then (chk (gi x8_39 12) (some (zp4_39 (Int32.toNatClampNeg x8_39)))) else (some ((1 : Int32) <<< (q11.1 &&& 31))))) (fun q54 => chk (gi x8_39 12) (Option.bind (α := Nat × Int32) (if q52.1 = 0 then (some (q52.2.2, 0)) else (if q24 = 0 then (some (q52.2.2, 1)) else (chk (decide (q52.2.2 + 1 ≤ 101)) (Option.bind (f_L_won N zp1_39 zp2_39 zp3_39 (upd q52.2.1 (Int32.toNatClampNeg x8_39) q54)) (fun q67 => if q67 = x5_39 then (some (q52.2.2 + 1, 1)) else (some (q52.2.2 + 1, 0))))))) (fun q62 => some (q62.2, upd q52.2.1 (Int32.toNatClampNeg x8_39) q54, q62.1))))))))))) (fun q15 => f_L_areChoices_L39 N x5_39 zp1_39 zp2_39 zp3_39 zp4_39 n_39 q15.1 (x8_39 + 1) q11.2 q15.2.1 q15.2.2)))))))
def f_L_areChoices (N : Nat) (x5 : Int32) (zp0 : XS) (zp1 : Nat → Int32) (zp2 : Nat → Int32) (zp3 : Nat → Int32) (zp4 : Nat → Int32) : Option (Int32 × XS) :=
    Option.bind (f_L_areChoices_L12 N zp1 zp4 N 0 (fun _ => 0)) (fun q6 => Option.bind (f_L_areChoices_L39 N x5 zp1 zp2 zp3 zp4 N 1 0 zp0 q6 1) (fun q83 => chk (decide (q83.2.2.2 ≤ 101)) (chk (isZ q83.1) (some (q83.1, q83.2.1)))))
set_option maxHeartbeats 4000000 in
set_option maxRecDepth 100000 in
theorem c_L_areChoices (l : Launch) (D : va_G) (cI cC cH : ClassId) (a_p0 : Nat) (ad : Nat → Nat) (a_p1 : Nat) (a_p2 : Nat) (a_p3 : Nat) (a_p4 : Nat) (N : Nat) (x5 : Int32) (zp0 : XS) (zp1 : Nat → Int32) (zp2 : Nat → Int32) (zp3 : Nat → Int32) (zp4 : Nat → Int32) (y : Int32 × XS) (h : f_L_areChoices N x5 zp0 zp1 zp2 zp3 zp4 = some y) : CTn l yL_areChoices cL_areChoices 13 .boolean 15 493 101 1212 D (tyL cI cC cH) [.ref a_p0, .ref a_p1, .ref a_p2, .ref a_p3, .ref a_p4, .int x5] (wO cI cC cH a_p0 ad zp0 ++ [(a_p1, .inl (cI, 1, .inl zp1)), (a_p2, .inl (cI, 12, .inl zp2)), (a_p3, .inl (cI, 12, .inl zp3)), (a_p4, .inl (cI, 12, .inl zp4))]) (wO cI cC cH a_p0 ad y.2 ++ [(a_p1, .inl (cI, 1, .inl zp1)), (a_p2, .inl (cI, 12, .inl zp2)), (a_p3, .inl (cI, 12, .inl zp3)), (a_p4, .inl (cI, 12, .inl zp4))]) y.1 := by
  unfold f_L_areChoices at h
  refine ctN (by decide) (Nat.le_of_ble_eq_true rfl) ?_
  intro p e s m args below meth c A Q ls F hret hP hD hS hl
  have hx := F.1
  have hb := F.2.1
  have hown : s.vm.findClass RL = some m.cls := F.2.2.2.1
  have hts := F.2.2.2.2.1
  have hN := F.2.2.2.2.2.1
  have hK := F.2.2.2.2.2.2.1
  have hl : lv_has ls 13 [(0, .ref a_p0), (1, .ref a_p1), (2, .ref a_p2), (3, .ref a_p3), (4, .ref a_p4), (5, .int x5)] := hl
  have hA := F.2.2.2.2.2.2.2
  refine lv_bipush (v := 12) hx hb dL_areChoices_0 (by decide) ?_
  refine va_newa (atype := .int) (ty := .int) (a0 := (12, .inl (fun _ => 0))) hx hb (hts _ wdaI) rfl hK hP hD hS hA (fun _ => rfl) (by decide) rfl (by decide) (Nat.le_of_ble_eq_true rfl) (Nat.le_of_ble_eq_true rfl) dL_areChoices_2 (fun a_new cA H hK9 hP hD hS => ?_)
  have eA : cA = cI := Option.some.inj (((hK9.2 3 _ rfl).2).symm.trans ((hK.2 0 _ rfl).2))
  rw [eA] at hP hD
  clear eA hK9
  have hP : va_P D vwCl (wO cI cC cH a_p0 ad zp0 ++ [(a_p1, .inl (cI, 1, .inl zp1)), (a_p2, .inl (cI, 12, .inl zp2)), (a_p3, .inl (cI, 12, .inl zp3)), (a_p4, .inl (cI, 12, .inl zp4)), (a_new, .inl (cI, 12, .inl (fun _ => 0)))]) H := hP
  have hD : va_D A (wO cI cC cH a_p0 ad zp0 ++ [(a_p1, .inl (cI, 1, .inl zp1)), (a_p2, .inl (cI, 12, .inl zp2)), (a_p3, .inl (cI, 12, .inl zp3)), (a_p4, .inl (cI, 12, .inl zp4)), (a_new, .inl (cI, 12, .inl (fun _ => 0)))]) := hD
  refine W.widen (k := 1) (n := 12) (Nat.le_of_ble_eq_true rfl) (Nat.le_of_ble_eq_true rfl) ?_
  refine lv_astore (lv' := [(6, .ref a_new), (0, .ref a_p0), (1, .ref a_p1), (2, .ref a_p2), (3, .ref a_p3), (4, .ref a_p4), (5, .int x5)]) hx hb dL_areChoices_4 hl (by decide) rfl (fun ls hl => ?_)
  refine lv_iconst (v := 1) hx hb dL_areChoices_6 (by decide) ?_
  refine lv_istore (lv' := [(7, .int 1), (6, .ref a_new), (0, .ref a_p0), (1, .ref a_p1), (2, .ref a_p2), (3, .ref a_p3), (4, .ref a_p4), (5, .int x5)]) hx hb dL_areChoices_7 hl (by decide) rfl (fun ls hl => ?_)
  refine lv_iconst (v := 0) hx hb dL_areChoices_9 (by decide) ?_
  refine lv_istore (lv' := [(8, .int 0), (7, .int 1), (6, .ref a_new), (0, .ref a_p0), (1, .ref a_p1), (2, .ref a_p2), (3, .ref a_p3), (4, .ref a_p4), (5, .int x5)]) hx hb dL_areChoices_10 hl (by decide) rfl (fun ls hl => ?_)
  have L_12 : ∀ (x5_12 : Int32) (x7_12 : Int32) (zp0_12 : XS) (zp1_12 : Nat → Int32) (zp2_12 : Nat → Int32) (zp3_12 : Nat → Int32) (zp4_12 : Nat → Int32) (znc_12 : Nat), ∀ (n_12 : Nat) (x8_12 : Int32) (znew_12 : Nat → Int32) (q5 : ((Nat → Int32))), f_L_areChoices_L12 N zp1_12 zp4_12 n_12 x8_12 znew_12 = some q5 → (∀ (ls : Array Slot) (H : Heap) (locs : List Loc), lv_has ls 13 [(0, .ref a_p0), (1, .ref a_p1), (2, .ref a_p2), (3, .ref a_p3), (4, .ref a_p4), (5, .int x5_12), (6, .ref a_new), (7, .int x7_12)] → va_P D vwCl (wO cI cC cH a_p0 ad zp0_12 ++ [(a_p1, .inl (cI, 1, .inl zp1_12)), (a_p2, .inl (cI, 12, .inl zp2_12)), (a_p3, .inl (cI, 12, .inl zp3_12)), (a_p4, .inl (cI, 12, .inl zp4_12)), (a_new, .inl (cI, 12, .inl q5))]) H → va_D A (wO cI cC cH a_p0 ad zp0_12 ++ [(a_p1, .inl (cI, 1, .inl zp1_12)), (a_p2, .inl (cI, 12, .inl zp2_12)), (a_p3, .inl (cI, 12, .inl zp3_12)), (a_p4, .inl (cI, 12, .inl zp4_12)), (a_new, .inl (cI, 12, .inl q5))]) → va_S A s.heap H locs → W p l e (rmn 15 493 101 1212) s m args below meth c H locs znc_12 (12 * znc_12) Q (F0 m 36 ls [])) → ∀ (ls : Array Slot) (H : Heap) (locs : List Loc), lv_has ls 13 [(0, .ref a_p0), (1, .ref a_p1), (2, .ref a_p2), (3, .ref a_p3), (4, .ref a_p4), (5, .int x5_12), (6, .ref a_new), (7, .int x7_12), (8, .int x8_12)] → va_P D vwCl (wO cI cC cH a_p0 ad zp0_12 ++ [(a_p1, .inl (cI, 1, .inl zp1_12)), (a_p2, .inl (cI, 12, .inl zp2_12)), (a_p3, .inl (cI, 12, .inl zp3_12)), (a_p4, .inl (cI, 12, .inl zp4_12)), (a_new, .inl (cI, 12, .inl znew_12))]) H → va_D A (wO cI cC cH a_p0 ad zp0_12 ++ [(a_p1, .inl (cI, 1, .inl zp1_12)), (a_p2, .inl (cI, 12, .inl zp2_12)), (a_p3, .inl (cI, 12, .inl zp3_12)), (a_p4, .inl (cI, 12, .inl zp4_12)), (a_new, .inl (cI, 12, .inl znew_12))]) → va_S A s.heap H locs → W p l e (rmn 15 493 101 1212) s m args below meth c H locs znc_12 (12 * znc_12) Q (F0 m 12 ls []) := by
    intro x5_12 x7_12 zp0_12 zp1_12 zp2_12 zp3_12 zp4_12 znc_12 n_12
    induction n_12 with
    | zero => intro x8_12 znew_12 q5 h; exact no_s h
    | succ n_12 ih_12 =>
      intro x8_12 znew_12 q5 h J_12 ls H locs hl hP hD hS
      rw [f_L_areChoices_L12] at h
      refine lv_iload hx hb dL_areChoices_12 (lv_at hl 8 rfl) ?_
      refine lv_aload_n hx hb dL_areChoices_14 rfl (lv_at hl 1 rfl) ?_
      refine lv_iconst (v := 0) hx hb dL_areChoices_15 (by decide) ?_
      obtain ⟨g1, h⟩ := chk_s h
      refine va_iald hx hb hK hP 39 0 rfl rfl (gi_in g1) dL_areChoices_16 ?_
      refine lv_icmp_ge (tgt := 36) hx hb dL_areChoices_17 (by decide) (fun c2 => ?_) (fun c2 => ?_)
      · have h := itT h c2
        obtain rfl := Option.some.inj h
        exact J_12 _ _ _ (lv_sub hl [0, 1, 2, 3, 4, 5, 6, 7] rfl) hP hD hS
      · have h := itF h c2
        refine lv_aload hx hb dL_areChoices_20 (lv_at hl 6 rfl) ?_
        refine lv_iload hx hb dL_areChoices_22 (lv_at hl 8 rfl) ?_
        refine lv_aload hx hb dL_areChoices_24 (lv_at hl 4 rfl) ?_
        refine lv_iload hx hb dL_areChoices_26 (lv_at hl 8 rfl) ?_
        obtain ⟨g3, h⟩ := chk_s h
        refine va_iald hx hb hK hP 42 0 rfl rfl (gi_in g3) dL_areChoices_28 ?_
        obtain ⟨g4, h⟩ := chk_s h
        refine va_iast hx hb hK hP hD hS 43 0 rfl rfl (gi_in g4) dL_areChoices_29 (fun H locs hP hD hS => ?_)
        have hP : va_P D vwCl (wO cI cC cH a_p0 ad zp0_12 ++ [(a_p1, .inl (cI, 1, .inl zp1_12)), (a_p2, .inl (cI, 12, .inl zp2_12)), (a_p3, .inl (cI, 12, .inl zp3_12)), (a_p4, .inl (cI, 12, .inl zp4_12)), (a_new, .inl (cI, 12, .inl (upd znew_12 (Int32.toNatClampNeg x8_12) (zp4_12 (Int32.toNatClampNeg x8_12)))))]) H := hP
        have hD : va_D A (wO cI cC cH a_p0 ad zp0_12 ++ [(a_p1, .inl (cI, 1, .inl zp1_12)), (a_p2, .inl (cI, 12, .inl zp2_12)), (a_p3, .inl (cI, 12, .inl zp3_12)), (a_p4, .inl (cI, 12, .inl zp4_12)), (a_new, .inl (cI, 12, .inl (upd znew_12 (Int32.toNatClampNeg x8_12) (zp4_12 (Int32.toNatClampNeg x8_12)))))]) := hD
        refine lv_iinc (v := x8_12 + 1) (lv' := [(8, .int (x8_12 + 1)), (0, .ref a_p0), (1, .ref a_p1), (2, .ref a_p2), (3, .ref a_p3), (4, .ref a_p4), (5, .int x5_12), (6, .ref a_new), (7, .int x7_12)]) hx hb dL_areChoices_30 hl (k := 8) rfl rfl (by decide) rfl (fun ls hl => ?_)
        refine lv_goto (tgt := 12) hx hb dL_areChoices_33 (by decide) ?_
        exact ih_12 (x8_12 + 1) (upd znew_12 (Int32.toNatClampNeg x8_12) (zp4_12 (Int32.toNatClampNeg x8_12))) _ h J_12 _ _ _ (lv_sub hl [1, 2, 3, 4, 5, 6, 7, 8, 0] rfl) hP hD hS
  obtain ⟨q6, hb87, h⟩ := bd h
  refine L_12 x5 1 zp0 zp1 zp2 zp3 zp4 1 N 0 (fun _ => 0) q6 hb87 ?_ _ _ _ (lv_sub hl [3, 4, 5, 6, 7, 8, 2, 1, 0] rfl) hP hD hS
  intro ls H locs hl hP hD hS
  refine lv_iconst (v := 0) hx hb dL_areChoices_36 (by decide) ?_
  refine lv_istore (lv' := [(8, .int 0), (0, .ref a_p0), (1, .ref a_p1), (2, .ref a_p2), (3, .ref a_p3), (4, .ref a_p4), (5, .int x5), (6, .ref a_new), (7, .int 1)]) hx hb dL_areChoices_37 hl (by decide) rfl (fun ls hl => ?_)
  have L_39 : ∀ (x5_39 : Int32) (zp1_39 : Nat → Int32) (zp2_39 : Nat → Int32) (zp3_39 : Nat → Int32) (zp4_39 : Nat → Int32), ∀ (n_39 : Nat) (x7_39 : Int32) (x8_39 : Int32) (zp0_39 : XS) (znew_39 : Nat → Int32) (znc_39 : Nat) (q82 : (Int32 × XS × (Nat → Int32) × Nat)), f_L_areChoices_L39 N x5_39 zp1_39 zp2_39 zp3_39 zp4_39 n_39 x7_39 x8_39 zp0_39 znew_39 znc_39 = some q82 → (∀ (ls : Array Slot) (H : Heap) (locs : List Loc), lv_has ls 13 [(7, .int q82.1)] → va_P D vwCl (wO cI cC cH a_p0 ad q82.2.1 ++ [(a_p1, .inl (cI, 1, .inl zp1_39)), (a_p2, .inl (cI, 12, .inl zp2_39)), (a_p3, .inl (cI, 12, .inl zp3_39)), (a_p4, .inl (cI, 12, .inl zp4_39)), (a_new, .inl (cI, 12, .inl q82.2.2.1))]) H → va_D A (wO cI cC cH a_p0 ad q82.2.1 ++ [(a_p1, .inl (cI, 1, .inl zp1_39)), (a_p2, .inl (cI, 12, .inl zp2_39)), (a_p3, .inl (cI, 12, .inl zp3_39)), (a_p4, .inl (cI, 12, .inl zp4_39)), (a_new, .inl (cI, 12, .inl q82.2.2.1))]) → va_S A s.heap H locs → W p l e (rmn 15 493 101 1212) s m args below meth c H locs q82.2.2.2 (12 * q82.2.2.2) Q (F0 m 311 ls [])) → ∀ (ls : Array Slot) (H : Heap) (locs : List Loc), lv_has ls 13 [(0, .ref a_p0), (1, .ref a_p1), (2, .ref a_p2), (3, .ref a_p3), (4, .ref a_p4), (5, .int x5_39), (6, .ref a_new), (7, .int x7_39), (8, .int x8_39)] → va_P D vwCl (wO cI cC cH a_p0 ad zp0_39 ++ [(a_p1, .inl (cI, 1, .inl zp1_39)), (a_p2, .inl (cI, 12, .inl zp2_39)), (a_p3, .inl (cI, 12, .inl zp3_39)), (a_p4, .inl (cI, 12, .inl zp4_39)), (a_new, .inl (cI, 12, .inl znew_39))]) H → va_D A (wO cI cC cH a_p0 ad zp0_39 ++ [(a_p1, .inl (cI, 1, .inl zp1_39)), (a_p2, .inl (cI, 12, .inl zp2_39)), (a_p3, .inl (cI, 12, .inl zp3_39)), (a_p4, .inl (cI, 12, .inl zp4_39)), (a_new, .inl (cI, 12, .inl znew_39))]) → va_S A s.heap H locs → W p l e (rmn 15 493 101 1212) s m args below meth c H locs znc_39 (12 * znc_39) Q (F0 m 39 ls []) := by
    intro x5_39 zp1_39 zp2_39 zp3_39 zp4_39 n_39
    induction n_39 with
    | zero => intro x7_39 x8_39 zp0_39 znew_39 znc_39 q82 h; exact no_s h
    | succ n_39 ih_39 =>
      intro x7_39 x8_39 zp0_39 znew_39 znc_39 q82 h J_39 ls H locs hl hP hD hS
      rw [f_L_areChoices_L39] at h
      refine lv_iload hx hb dL_areChoices_39 (lv_at hl 8 rfl) ?_
      refine lv_aload_n hx hb dL_areChoices_41 rfl (lv_at hl 1 rfl) ?_
      refine lv_iconst (v := 0) hx hb dL_areChoices_42 (by decide) ?_
      obtain ⟨g7, h⟩ := chk_s h
      refine va_iald hx hb hK hP 39 0 rfl rfl (gi_in g7) dL_areChoices_43 ?_
      refine lv_icmp_ge (tgt := 311) hx hb dL_areChoices_44 (by decide) (fun c8 => ?_) (fun c8 => ?_)
      · have h := itT h c8
        obtain rfl := Option.some.inj h
        exact J_39 _ _ _ (lv_sub hl [7] rfl) hP hD hS
      · have h := itF h c8
        refine lv_iload hx hb dL_areChoices_47 (lv_at hl 7 rfl) ?_
        refine lv_if_eq (tgt := 311) hx hb dL_areChoices_49 (by decide) (fun c9 => ?_) (fun c9 => ?_)
        · have h := itT h c9
          obtain rfl := Option.some.inj h
          exact J_39 _ _ _ (lv_sub hl [7] rfl) hP hD hS
        · have h := itF h c9
          refine lv_aload_n hx hb dL_areChoices_52 rfl (lv_at hl 0 rfl) ?_
          refine lv_iload hx hb dL_areChoices_53 (lv_at hl 8 rfl) ?_
          refine lv_iconst (v := 5) hx hb dL_areChoices_55 (by decide) ?_
          obtain ⟨g10, h⟩ := chk_s h
          have g10 := of_decide_eq_true g10
          obtain ⟨q11, hq12, h⟩ := bd h
          refine lx5_placeOf l D cI cC cH a_p0 ad N x8_39 5 zp0_39 q11 [] hq12 F hP hD hS hl ⟨Nat.le_of_ble_eq_true rfl, Nat.le_of_ble_eq_true rfl, (by show _ ≤ 101; omega), (by show _ ≤ 1212; omega)⟩ (Nat.le_of_ble_eq_true rfl) dL_areChoices_56 (fun H locs hP hD hS => ?_)
          refine lv_istore (lv' := [(9, .int q11.1), (0, .ref a_p0), (1, .ref a_p1), (2, .ref a_p2), (3, .ref a_p3), (4, .ref a_p4), (5, .int x5_39), (6, .ref a_new), (7, .int x7_39), (8, .int x8_39)]) hx hb dL_areChoices_59 hl (by decide) rfl (fun ls hl => ?_)
          refine lv_aload hx hb dL_areChoices_61 (lv_at hl 5 rfl) ?_
          refine lv_iload hx hb dL_areChoices_63 (lv_at hl 9 rfl) ?_
          obtain ⟨g13, h⟩ := chk_s h
          refine va_iald hx hb hK hP 42 0 rfl rfl (gi_in g13) dL_areChoices_65 ?_
          obtain ⟨q15, hb81, h⟩ := bd h
          have J16 : ∀ (ls : Array Slot) (H : Heap) (locs : List Loc), lv_has ls 13 [(0, .ref a_p0), (1, .ref a_p1), (2, .ref a_p2), (3, .ref a_p3), (4, .ref a_p4), (5, .int x5_39), (6, .ref a_new), (7, .int q15.1), (8, .int x8_39)] → va_P D vwCl (wO cI cC cH a_p0 ad q11.2 ++ [(a_p1, .inl (cI, 1, .inl zp1_39)), (a_p2, .inl (cI, 12, .inl zp2_39)), (a_p3, .inl (cI, 12, .inl zp3_39)), (a_p4, .inl (cI, 12, .inl zp4_39)), (a_new, .inl (cI, 12, .inl q15.2.1))]) H → va_D A (wO cI cC cH a_p0 ad q11.2 ++ [(a_p1, .inl (cI, 1, .inl zp1_39)), (a_p2, .inl (cI, 12, .inl zp2_39)), (a_p3, .inl (cI, 12, .inl zp3_39)), (a_p4, .inl (cI, 12, .inl zp4_39)), (a_new, .inl (cI, 12, .inl q15.2.1))]) → va_S A s.heap H locs → W p l e (rmn 15 493 101 1212) s m args below meth c H locs q15.2.2 (12 * q15.2.2) Q (F0 m 305 ls []) := by
            intro ls H locs hl hP hD hS
            refine lv_iinc (v := x8_39 + 1) (lv' := [(8, .int (x8_39 + 1)), (0, .ref a_p0), (1, .ref a_p1), (2, .ref a_p2), (3, .ref a_p3), (4, .ref a_p4), (5, .int x5_39), (6, .ref a_new), (7, .int q15.1)]) hx hb dL_areChoices_305 hl (k := 8) rfl rfl (by decide) rfl (fun ls hl => ?_)
            refine lv_goto (tgt := 39) hx hb dL_areChoices_308 (by decide) ?_
            exact ih_39 q15.1 (x8_39 + 1) q11.2 q15.2.1 q15.2.2 _ h J_39 _ _ _ (lv_sub hl [1, 2, 3, 4, 5, 6, 7, 8, 0] rfl) hP hD hS
          clear h
          have h := hb81
          clear hb81
          refine lv_if_ne (tgt := 86) hx hb dL_areChoices_66 (by decide) (fun c14 => ?_) (fun c14 => ?_)
          · have h := itF h c14
            refine lv_iconst (v := 0) hx hb dL_areChoices_86 (by decide) ?_
            refine lv_istore (lv' := [(10, .int 0), (9, .int q11.1), (0, .ref a_p0), (1, .ref a_p1), (2, .ref a_p2), (3, .ref a_p3), (4, .ref a_p4), (5, .int x5_39), (6, .ref a_new), (7, .int x7_39), (8, .int x8_39)]) hx hb dL_areChoices_87 hl (by decide) rfl (fun ls hl => ?_)
            have L_89 : ∀ (x5_89 : Int32) (x8_89 : Int32) (x9_89 : Int32) (zp0_89 : XS) (zp1_89 : Nat → Int32) (zp2_89 : Nat → Int32) (zp3_89 : Nat → Int32) (zp4_89 : Nat → Int32) (znew_89 : Nat → Int32) (znc_89 : Nat), ∀ (n_89 : Nat) (x10_89 : Int32) (q20 : (Int32)), f_L_areChoices_L89 N x8_89 zp4_89 n_89 x10_89 = some q20 → (∀ (ls : Array Slot) (H : Heap) (locs : List Loc), lv_has ls 13 [(0, .ref a_p0), (1, .ref a_p1), (2, .ref a_p2), (3, .ref a_p3), (4, .ref a_p4), (5, .int x5_89), (6, .ref a_new), (8, .int x8_89), (9, .int x9_89), (10, .int q20)] → va_P D vwCl (wO cI cC cH a_p0 ad zp0_89 ++ [(a_p1, .inl (cI, 1, .inl zp1_89)), (a_p2, .inl (cI, 12, .inl zp2_89)), (a_p3, .inl (cI, 12, .inl zp3_89)), (a_p4, .inl (cI, 12, .inl zp4_89)), (a_new, .inl (cI, 12, .inl znew_89))]) H → va_D A (wO cI cC cH a_p0 ad zp0_89 ++ [(a_p1, .inl (cI, 1, .inl zp1_89)), (a_p2, .inl (cI, 12, .inl zp2_89)), (a_p3, .inl (cI, 12, .inl zp3_89)), (a_p4, .inl (cI, 12, .inl zp4_89)), (a_new, .inl (cI, 12, .inl znew_89))]) → va_S A s.heap H locs → W p l e (rmn 15 493 101 1212) s m args below meth c H locs znc_89 (12 * znc_89) Q (F0 m 108 ls [])) → ∀ (ls : Array Slot) (H : Heap) (locs : List Loc), lv_has ls 13 [(0, .ref a_p0), (1, .ref a_p1), (2, .ref a_p2), (3, .ref a_p3), (4, .ref a_p4), (5, .int x5_89), (6, .ref a_new), (8, .int x8_89), (9, .int x9_89), (10, .int x10_89)] → va_P D vwCl (wO cI cC cH a_p0 ad zp0_89 ++ [(a_p1, .inl (cI, 1, .inl zp1_89)), (a_p2, .inl (cI, 12, .inl zp2_89)), (a_p3, .inl (cI, 12, .inl zp3_89)), (a_p4, .inl (cI, 12, .inl zp4_89)), (a_new, .inl (cI, 12, .inl znew_89))]) H → va_D A (wO cI cC cH a_p0 ad zp0_89 ++ [(a_p1, .inl (cI, 1, .inl zp1_89)), (a_p2, .inl (cI, 12, .inl zp2_89)), (a_p3, .inl (cI, 12, .inl zp3_89)), (a_p4, .inl (cI, 12, .inl zp4_89)), (a_new, .inl (cI, 12, .inl znew_89))]) → va_S A s.heap H locs → W p l e (rmn 15 493 101 1212) s m args below meth c H locs znc_89 (12 * znc_89) Q (F0 m 89 ls []) := by
              intro x5_89 x8_89 x9_89 zp0_89 zp1_89 zp2_89 zp3_89 zp4_89 znew_89 znc_89 n_89
              induction n_89 with
              | zero => intro x10_89 q20 h; exact no_s h
              | succ n_89 ih_89 =>
                intro x10_89 q20 h J_89 ls H locs hl hP hD hS
                rw [f_L_areChoices_L89] at h
                refine lv_aload hx hb dL_areChoices_89 (lv_at hl 4 rfl) ?_
                refine lv_iload hx hb dL_areChoices_91 (lv_at hl 7 rfl) ?_
                obtain ⟨g18, h⟩ := chk_s h
                refine va_iald hx hb hK hP 42 0 rfl rfl (gi_in g18) dL_areChoices_93 ?_
                refine lv_iload hx hb dL_areChoices_94 (lv_at hl 9 rfl) ?_
                refine lv_ishr hx hb dL_areChoices_96 ?_
                refine lv_iconst (v := 1) hx hb dL_areChoices_97 (by decide) ?_
                refine lv_iand hx hb dL_areChoices_98 ?_
                refine lv_if_ne (tgt := 108) hx hb dL_areChoices_99 (by decide) (fun c19 => ?_) (fun c19 => ?_)
                · have h := itF h c19
                  obtain rfl := Option.some.inj h
                  exact J_89 _ _ _ (lv_sub hl [0, 1, 2, 3, 4, 5, 6, 7, 8, 9] rfl) hP hD hS
                · have h := itT h c19
                  refine lv_iinc (v := x10_89 + 1) (lv' := [(10, .int (x10_89 + 1)), (0, .ref a_p0), (1, .ref a_p1), (2, .ref a_p2), (3, .ref a_p3), (4, .ref a_p4), (5, .int x5_89), (6, .ref a_new), (8, .int x8_89), (9, .int x9_89)]) hx hb dL_areChoices_102 hl (k := 9) rfl rfl (by decide) rfl (fun ls hl => ?_)
                  refine lv_goto (tgt := 89) hx hb dL_areChoices_105 (by decide) ?_
                  exact ih_89 (x10_89 + 1) _ h J_89 _ _ _ (lv_sub hl [1, 2, 3, 4, 5, 6, 7, 8, 9, 0] rfl) hP hD hS
            obtain ⟨q21, hb75, h⟩ := bd h
            refine L_89 x5_39 x8_39 q11.1 q11.2 zp1_39 zp2_39 zp3_39 zp4_39 znew_39 znc_39 N 0 q21 hb75 ?_ _ _ _ (lv_sub hl [2, 3, 4, 5, 6, 7, 8, 10, 1, 0] rfl) hP hD hS
            intro ls H locs hl hP hD hS
            refine lv_iload hx hb dL_areChoices_108 (lv_at hl 5 rfl) ?_
            refine lv_iload hx hb dL_areChoices_110 (lv_at hl 7 rfl) ?_
            refine lv_ishr hx hb dL_areChoices_112 ?_
            refine lv_iconst (v := 1) hx hb dL_areChoices_113 (by decide) ?_
            refine lv_iand hx hb dL_areChoices_114 ?_
            refine lv_iconst (v := 1) hx hb dL_areChoices_115 (by decide) ?_
            refine lv_aload_n hx hb dL_areChoices_116 rfl (lv_at hl 2 rfl) ?_
            refine lv_iload hx hb dL_areChoices_117 (lv_at hl 7 rfl) ?_
            obtain ⟨g22, h⟩ := chk_s h
            refine va_iald hx hb hK hP 40 0 rfl rfl (gi_in g22) dL_areChoices_119 ?_
            refine lv_isub hx hb dL_areChoices_120 ?_
            obtain ⟨q24, hb74, h⟩ := bd h
            have J25 : ∀ (ls : Array Slot) (H : Heap) (locs : List Loc), lv_has ls 13 [(0, .ref a_p0), (1, .ref a_p1), (2, .ref a_p2), (3, .ref a_p3), (4, .ref a_p4), (5, .int x5_39), (6, .ref a_new), (8, .int x8_39), (9, .int q11.1), (10, .int q21)] → va_P D vwCl (wO cI cC cH a_p0 ad q11.2 ++ [(a_p1, .inl (cI, 1, .inl zp1_39)), (a_p2, .inl (cI, 12, .inl zp2_39)), (a_p3, .inl (cI, 12, .inl zp3_39)), (a_p4, .inl (cI, 12, .inl zp4_39)), (a_new, .inl (cI, 12, .inl znew_39))]) H → va_D A (wO cI cC cH a_p0 ad q11.2 ++ [(a_p1, .inl (cI, 1, .inl zp1_39)), (a_p2, .inl (cI, 12, .inl zp2_39)), (a_p3, .inl (cI, 12, .inl zp3_39)), (a_p4, .inl (cI, 12, .inl zp4_39)), (a_new, .inl (cI, 12, .inl znew_39))]) → va_S A s.heap H locs → W p l e (rmn 15 493 101 1212) s m args below meth c H locs znc_39 (12 * znc_39) Q (F0 m 129 ls [.int q24]) := by
              intro ls H locs hl hP hD hS
              refine lv_istore (lv' := [(11, .int q24), (0, .ref a_p0), (1, .ref a_p1), (2, .ref a_p2), (3, .ref a_p3), (4, .ref a_p4), (5, .int x5_39), (6, .ref a_new), (8, .int x8_39), (9, .int q11.1), (10, .int q21)]) hx hb dL_areChoices_129 hl (by decide) rfl (fun ls hl => ?_)
              refine lv_iload hx hb dL_areChoices_131 (lv_at hl 9 rfl) ?_
              refine lv_iload hx hb dL_areChoices_133 (lv_at hl 10 rfl) ?_
              obtain ⟨q28, hb73, h⟩ := bd h
              have J29 : ∀ (ls : Array Slot) (H : Heap) (locs : List Loc), lv_has ls 13 [(0, .ref a_p0), (1, .ref a_p1), (2, .ref a_p2), (3, .ref a_p3), (4, .ref a_p4), (5, .int x5_39), (6, .ref a_new), (8, .int x8_39), (9, .int q11.1), (10, .int q21), (11, .int q24)] → va_P D vwCl (wO cI cC cH a_p0 ad q11.2 ++ [(a_p1, .inl (cI, 1, .inl zp1_39)), (a_p2, .inl (cI, 12, .inl zp2_39)), (a_p3, .inl (cI, 12, .inl zp3_39)), (a_p4, .inl (cI, 12, .inl zp4_39)), (a_new, .inl (cI, 12, .inl znew_39))]) H → va_D A (wO cI cC cH a_p0 ad q11.2 ++ [(a_p1, .inl (cI, 1, .inl zp1_39)), (a_p2, .inl (cI, 12, .inl zp2_39)), (a_p3, .inl (cI, 12, .inl zp3_39)), (a_p4, .inl (cI, 12, .inl zp4_39)), (a_new, .inl (cI, 12, .inl znew_39))]) → va_S A s.heap H locs → W p l e (rmn 15 493 101 1212) s m args below meth c H locs znc_39 (12 * znc_39) Q (F0 m 177 ls [.int q28]) := by
                intro ls H locs hl hP hD hS
                refine lv_istore (lv' := [(7, .int q28), (0, .ref a_p0), (1, .ref a_p1), (2, .ref a_p2), (3, .ref a_p3), (4, .ref a_p4), (5, .int x5_39), (6, .ref a_new), (8, .int x8_39), (9, .int q11.1), (10, .int q21), (11, .int q24)]) hx hb dL_areChoices_177 hl (by decide) rfl (fun ls hl => ?_)
                refine lv_iload hx hb dL_areChoices_179 (lv_at hl 10 rfl) ?_
                refine lv_istore (lv' := [(12, .int q21), (7, .int q28), (0, .ref a_p0), (1, .ref a_p1), (2, .ref a_p2), (3, .ref a_p3), (4, .ref a_p4), (5, .int x5_39), (6, .ref a_new), (8, .int x8_39), (9, .int q11.1), (10, .int q21), (11, .int q24)]) hx hb dL_areChoices_181 hl (by decide) rfl (fun ls hl => ?_)
                have L_183 : ∀ (x5_183 : Int32) (x8_183 : Int32) (x9_183 : Int32) (x11_183 : Int32) (zp0_183 : XS) (zp1_183 : Nat → Int32) (zp2_183 : Nat → Int32) (zp3_183 : Nat → Int32) (zp4_183 : Nat → Int32), ∀ (n_183 : Nat) (x7_183 : Int32) (x12_183 : Int32) (znew_183 : Nat → Int32) (znc_183 : Nat) (q51 : (Int32 × (Nat → Int32) × Nat)), f_L_areChoices_L183 N x5_183 x8_183 x9_183 x11_183 zp1_183 zp2_183 zp3_183 zp4_183 n_183 x7_183 x12_183 znew_183 znc_183 = some q51 → (∀ (ls : Array Slot) (H : Heap) (locs : List Loc), lv_has ls 13 [(0, .ref a_p0), (1, .ref a_p1), (2, .ref a_p2), (3, .ref a_p3), (4, .ref a_p4), (5, .int x5_183), (6, .ref a_new), (7, .int q51.1), (8, .int x8_183), (9, .int x9_183), (11, .int x11_183)] → va_P D vwCl (wO cI cC cH a_p0 ad zp0_183 ++ [(a_p1, .inl (cI, 1, .inl zp1_183)), (a_p2, .inl (cI, 12, .inl zp2_183)), (a_p3, .inl (cI, 12, .inl zp3_183)), (a_p4, .inl (cI, 12, .inl zp4_183)), (a_new, .inl (cI, 12, .inl q51.2.1))]) H → va_D A (wO cI cC cH a_p0 ad zp0_183 ++ [(a_p1, .inl (cI, 1, .inl zp1_183)), (a_p2, .inl (cI, 12, .inl zp2_183)), (a_p3, .inl (cI, 12, .inl zp3_183)), (a_p4, .inl (cI, 12, .inl zp4_183)), (a_new, .inl (cI, 12, .inl q51.2.1))]) → va_S A s.heap H locs → W p l e (rmn 15 493 101 1212) s m args below meth c H locs q51.2.2 (12 * q51.2.2) Q (F0 m 248 ls [])) → ∀ (ls : Array Slot) (H : Heap) (locs : List Loc), lv_has ls 13 [(0, .ref a_p0), (1, .ref a_p1), (2, .ref a_p2), (3, .ref a_p3), (4, .ref a_p4), (5, .int x5_183), (6, .ref a_new), (7, .int x7_183), (8, .int x8_183), (9, .int x9_183), (11, .int x11_183), (12, .int x12_183)] → va_P D vwCl (wO cI cC cH a_p0 ad zp0_183 ++ [(a_p1, .inl (cI, 1, .inl zp1_183)), (a_p2, .inl (cI, 12, .inl zp2_183)), (a_p3, .inl (cI, 12, .inl zp3_183)), (a_p4, .inl (cI, 12, .inl zp4_183)), (a_new, .inl (cI, 12, .inl znew_183))]) H → va_D A (wO cI cC cH a_p0 ad zp0_183 ++ [(a_p1, .inl (cI, 1, .inl zp1_183)), (a_p2, .inl (cI, 12, .inl zp2_183)), (a_p3, .inl (cI, 12, .inl zp3_183)), (a_p4, .inl (cI, 12, .inl zp4_183)), (a_new, .inl (cI, 12, .inl znew_183))]) → va_S A s.heap H locs → W p l e (rmn 15 493 101 1212) s m args below meth c H locs znc_183 (12 * znc_183) Q (F0 m 183 ls []) := by
                  intro x5_183 x8_183 x9_183 x11_183 zp0_183 zp1_183 zp2_183 zp3_183 zp4_183 n_183
                  induction n_183 with
                  | zero => intro x7_183 x12_183 znew_183 znc_183 q51 h; exact no_s h
                  | succ n_183 ih_183 =>
                    intro x7_183 x12_183 znew_183 znc_183 q51 h J_183 ls H locs hl hP hD hS
                    rw [f_L_areChoices_L183] at h
                    refine lv_iload hx hb dL_areChoices_183 (lv_at hl 11 rfl) ?_
                    refine lv_iload hx hb dL_areChoices_185 (lv_at hl 9 rfl) ?_
                    refine lv_icmp_ge (tgt := 248) hx hb dL_areChoices_187 (by decide) (fun c37 => ?_) (fun c37 => ?_)
                    · have h := itT h c37
                      obtain rfl := Option.some.inj h
                      exact J_183 _ _ _ (lv_sub hl [0, 1, 2, 3, 4, 5, 6, 7, 8, 9, 10] rfl) hP hD hS
                    · have h := itF h c37
                      refine lv_iload hx hb dL_areChoices_190 (lv_at hl 7 rfl) ?_
                      refine lv_if_eq (tgt := 248) hx hb dL_areChoices_192 (by decide) (fun c38 => ?_) (fun c38 => ?_)
                      · have h := itT h c38
                        obtain rfl := Option.some.inj h
                        exact J_183 _ _ _ (lv_sub hl [0, 1, 2, 3, 4, 5, 6, 7, 8, 9, 10] rfl) hP hD hS
                      · have h := itF h c38
                        refine lv_iload hx hb dL_areChoices_195 (lv_at hl 10 rfl) ?_
                        refine lv_if_eq (tgt := 248) hx hb dL_areChoices_197 (by decide) (fun c39 => ?_) (fun c39 => ?_)
                        · have h := itT h c39
                          obtain rfl := Option.some.inj h
                          exact J_183 _ _ _ (lv_sub hl [0, 1, 2, 3, 4, 5, 6, 7, 8, 9, 10] rfl) hP hD hS
                        · have h := itF h c39
                          refine lv_aload hx hb dL_areChoices_200 (lv_at hl 6 rfl) ?_
                          refine lv_iload hx hb dL_areChoices_202 (lv_at hl 8 rfl) ?_
                          refine lv_iconst (v := 1) hx hb dL_areChoices_204 (by decide) ?_
                          refine lv_iload hx hb dL_areChoices_205 (lv_at hl 11 rfl) ?_
                          refine lv_ishl hx hb dL_areChoices_207 ?_
                          obtain ⟨g40, h⟩ := chk_s h
                          refine va_iast hx hb hK hP hD hS 43 0 rfl rfl (gi_in g40) dL_areChoices_208 (fun H locs hP hD hS => ?_)
                          have hP : va_P D vwCl (wO cI cC cH a_p0 ad zp0_183 ++ [(a_p1, .inl (cI, 1, .inl zp1_183)), (a_p2, .inl (cI, 12, .inl zp2_183)), (a_p3, .inl (cI, 12, .inl zp3_183)), (a_p4, .inl (cI, 12, .inl zp4_183)), (a_new, .inl (cI, 12, .inl (upd znew_183 (Int32.toNatClampNeg x8_183) ((1 : Int32) <<< (x12_183 &&& 31)))))]) H := hP
                          have hD : va_D A (wO cI cC cH a_p0 ad zp0_183 ++ [(a_p1, .inl (cI, 1, .inl zp1_183)), (a_p2, .inl (cI, 12, .inl zp2_183)), (a_p3, .inl (cI, 12, .inl zp3_183)), (a_p4, .inl (cI, 12, .inl zp4_183)), (a_new, .inl (cI, 12, .inl (upd znew_183 (Int32.toNatClampNeg x8_183) ((1 : Int32) <<< (x12_183 &&& 31)))))]) := hD
                          refine lv_aload hx hb dL_areChoices_209 (lv_at hl 4 rfl) ?_
                          refine lv_iload hx hb dL_areChoices_211 (lv_at hl 8 rfl) ?_
                          obtain ⟨g41, h⟩ := chk_s h
                          refine va_iald hx hb hK hP 42 0 rfl rfl (gi_in g41) dL_areChoices_213 ?_
                          refine lv_iload hx hb dL_areChoices_214 (lv_at hl 11 rfl) ?_
                          refine lv_ishr hx hb dL_areChoices_216 ?_
                          refine lv_iconst (v := 1) hx hb dL_areChoices_217 (by decide) ?_
                          refine lv_iand hx hb dL_areChoices_218 ?_
                          obtain ⟨q43, hb50, h⟩ := bd h
                          have J44 : ∀ (ls : Array Slot) (H : Heap) (locs : List Loc), lv_has ls 13 [(0, .ref a_p0), (1, .ref a_p1), (2, .ref a_p2), (3, .ref a_p3), (4, .ref a_p4), (5, .int x5_183), (6, .ref a_new), (8, .int x8_183), (9, .int x9_183), (11, .int x11_183), (12, .int x12_183)] → va_P D vwCl (wO cI cC cH a_p0 ad zp0_183 ++ [(a_p1, .inl (cI, 1, .inl zp1_183)), (a_p2, .inl (cI, 12, .inl zp2_183)), (a_p3, .inl (cI, 12, .inl zp3_183)), (a_p4, .inl (cI, 12, .inl zp4_183)), (a_new, .inl (cI, 12, .inl (upd znew_183 (Int32.toNatClampNeg x8_183) ((1 : Int32) <<< (x12_183 &&& 31)))))]) H → va_D A (wO cI cC cH a_p0 ad zp0_183 ++ [(a_p1, .inl (cI, 1, .inl zp1_183)), (a_p2, .inl (cI, 12, .inl zp2_183)), (a_p3, .inl (cI, 12, .inl zp3_183)), (a_p4, .inl (cI, 12, .inl zp4_183)), (a_new, .inl (cI, 12, .inl (upd znew_183 (Int32.toNatClampNeg x8_183) ((1 : Int32) <<< (x12_183 &&& 31)))))]) → va_S A s.heap H locs → W p l e (rmn 15 493 101 1212) s m args below meth c H locs q43.1 (12 * q43.1) Q (F0 m 240 ls [.int q43.2]) := by
                            intro ls H locs hl hP hD hS
                            refine lv_istore (lv' := [(7, .int q43.2), (0, .ref a_p0), (1, .ref a_p1), (2, .ref a_p2), (3, .ref a_p3), (4, .ref a_p4), (5, .int x5_183), (6, .ref a_new), (8, .int x8_183), (9, .int x9_183), (11, .int x11_183), (12, .int x12_183)]) hx hb dL_areChoices_240 hl (by decide) rfl (fun ls hl => ?_)
                            refine lv_iinc (v := x12_183 + 1) (lv' := [(12, .int (x12_183 + 1)), (7, .int q43.2), (0, .ref a_p0), (1, .ref a_p1), (2, .ref a_p2), (3, .ref a_p3), (4, .ref a_p4), (5, .int x5_183), (6, .ref a_new), (8, .int x8_183), (9, .int x9_183), (11, .int x11_183)]) hx hb dL_areChoices_242 hl (k := 11) rfl rfl (by decide) rfl (fun ls hl => ?_)
                            refine lv_goto (tgt := 183) hx hb dL_areChoices_245 (by decide) ?_
                            exact ih_183 q43.2 (x12_183 + 1) (upd znew_183 (Int32.toNatClampNeg x8_183) ((1 : Int32) <<< (x12_183 &&& 31))) q43.1 _ h J_183 _ _ _ (lv_sub hl [2, 3, 4, 5, 6, 7, 8, 1, 9, 10, 11, 0] rfl) hP hD hS
                          clear h
                          have h := hb50
                          clear hb50
                          refine lv_if_eq (tgt := 235) hx hb dL_areChoices_219 (by decide) (fun c42 => ?_) (fun c42 => ?_)
                          · have h := itT h c42
                            refine lv_iconst (v := 1) hx hb dL_areChoices_235 (by decide) ?_
                            refine lv_goto (tgt := 240) hx hb dL_areChoices_236 (by decide) ?_
                            obtain rfl := Option.some.inj h
                            exact J44 _ _ _ (lv_sub hl [0, 1, 2, 3, 4, 5, 6, 8, 9, 10, 11] rfl) hP hD hS
                          · have h := itF h c42
                            refine lv_aload_n hx hb dL_areChoices_222 rfl (lv_at hl 1 rfl) ?_
                            refine lv_aload_n hx hb dL_areChoices_223 rfl (lv_at hl 2 rfl) ?_
                            refine lv_aload_n hx hb dL_areChoices_224 rfl (lv_at hl 3 rfl) ?_
                            refine lv_aload hx hb dL_areChoices_225 (lv_at hl 6 rfl) ?_
                            obtain ⟨g46, h⟩ := chk_s h
                            have g46 := of_decide_eq_true g46
                            obtain ⟨q47, hq48, h⟩ := bd h
                            refine ksN (ws' := (wO cI cC cH a_p0 ad zp0_183 ++ [(a_p1, .inl (cI, 1, .inl zp1_183)), (a_p2, .inl (cI, 12, .inl zp2_183)), (a_p3, .inl (cI, 12, .inl zp3_183)), (a_p4, .inl (cI, 12, .inl zp4_183)), (a_new, .inl (cI, 12, .inl (upd znew_183 (Int32.toNatClampNeg x8_183) ((1 : Int32) <<< (x12_183 &&& 31)))))])) (wr := (wO cI cC cH a_p0 ad zp0_183 ++ [(a_p4, .inl (cI, 12, .inl zp4_183))])) (rest := []) (As := [.ref a_p1, .ref a_p2, .ref a_p3, .ref a_new]) F (c_L_won l D cI cC cH a_p1 a_p2 a_p3 a_new N zp1_183 zp2_183 zp3_183 (upd znew_183 (Int32.toNatClampNeg x8_183) ((1 : Int32) <<< (x12_183 &&& 31))) q47 hq48) yfL_won ⟨wd2_102, wd2_103⟩ hP hD hS [39, 40, 41, 43] [0, 1, 2, 3, 4, 5, 6, 7, 8, 9, 10, 11, 12, 13, 14, 15, 16, 17, 18, 19, 20, 21, 22, 23, 24, 25, 26, 27, 28, 29, 30, 31, 32, 33, 34, 35, 36, 37, 38, 42] [0, 1, 2, 3, 4, 5, 6, 7, 8, 9, 10, 11, 12, 13, 14, 15, 16, 17, 18, 19, 20, 21, 22, 23, 24, 25, 26, 27, 28, 29, 30, 31, 32, 33, 34, 35, 36, 37, 38, 40, 41, 42, 39, 43] rfl rfl (by decide) (by decide) (by decide) rfl (by decide) ⟨Nat.le_of_ble_eq_true rfl, Nat.le_of_ble_eq_true rfl, (by show _ ≤ 101; omega), (by show _ ≤ 1212; omega)⟩ rfl hl rfl (Nat.le_of_ble_eq_true rfl) dL_areChoices_227 (fun H locs hP hD hS => ?_)
                            refine W.widen (k := znc_183 + 1) (n := 12 * (znc_183 + 1)) (by omega) (by omega) ?_
                            refine lv_iload hx hb dL_areChoices_230 (lv_at hl 5 rfl) ?_
                            refine lv_icmp_eq (tgt := 239) hx hb dL_areChoices_232 (by decide) (fun c49 => ?_) (fun c49 => ?_)
                            · have h := itT h c49
                              refine lv_iconst (v := 0) hx hb dL_areChoices_239 (by decide) ?_
                              obtain rfl := Option.some.inj h
                              exact J44 _ _ _ (lv_sub hl [0, 1, 2, 3, 4, 5, 6, 8, 9, 10, 11] rfl) hP hD hS
                            · have h := itF h c49
                              refine lv_iconst (v := 1) hx hb dL_areChoices_235 (by decide) ?_
                              refine lv_goto (tgt := 240) hx hb dL_areChoices_236 (by decide) ?_
                              obtain rfl := Option.some.inj h
                              exact J44 _ _ _ (lv_sub hl [0, 1, 2, 3, 4, 5, 6, 8, 9, 10, 11] rfl) hP hD hS
                obtain ⟨q52, hb72, h⟩ := bd h
                refine L_183 x5_39 x8_39 q11.1 q24 q11.2 zp1_39 zp2_39 zp3_39 zp4_39 N q28 q21 znew_39 znc_39 q52 hb72 ?_ _ _ _ (lv_sub hl [2, 3, 4, 5, 6, 7, 8, 1, 9, 10, 12, 0] rfl) hP hD hS
                intro ls H locs hl hP hD hS
                refine lv_aload hx hb dL_areChoices_248 (lv_at hl 6 rfl) ?_
                refine lv_iload hx hb dL_areChoices_250 (lv_at hl 8 rfl) ?_
                refine lv_iload hx hb dL_areChoices_252 (lv_at hl 7 rfl) ?_
                obtain ⟨q54, hb71, h⟩ := bd h
                have J55 : ∀ (ls : Array Slot) (H : Heap) (locs : List Loc), lv_has ls 13 [(0, .ref a_p0), (1, .ref a_p1), (2, .ref a_p2), (3, .ref a_p3), (4, .ref a_p4), (5, .int x5_39), (6, .ref a_new), (7, .int q52.1), (8, .int x8_39), (11, .int q24)] → va_P D vwCl (wO cI cC cH a_p0 ad q11.2 ++ [(a_p1, .inl (cI, 1, .inl zp1_39)), (a_p2, .inl (cI, 12, .inl zp2_39)), (a_p3, .inl (cI, 12, .inl zp3_39)), (a_p4, .inl (cI, 12, .inl zp4_39)), (a_new, .inl (cI, 12, .inl q52.2.1))]) H → va_D A (wO cI cC cH a_p0 ad q11.2 ++ [(a_p1, .inl (cI, 1, .inl zp1_39)), (a_p2, .inl (cI, 12, .inl zp2_39)), (a_p3, .inl (cI, 12, .inl zp3_39)), (a_p4, .inl (cI, 12, .inl zp4_39)), (a_new, .inl (cI, 12, .inl q52.2.1))]) → va_S A s.heap H locs → W p l e (rmn 15 493 101 1212) s m args below meth c H locs q52.2.2 (12 * q52.2.2) Q (F0 m 274 ls [.int q54, .int x8_39, .ref a_new]) := by
                  intro ls H locs hl hP hD hS
                  obtain ⟨g60, h⟩ := chk_s h
                  refine va_iast hx hb hK hP hD hS 43 0 rfl rfl (gi_in g60) dL_areChoices_274 (fun H locs hP hD hS => ?_)
                  have hP : va_P D vwCl (wO cI cC cH a_p0 ad q11.2 ++ [(a_p1, .inl (cI, 1, .inl zp1_39)), (a_p2, .inl (cI, 12, .inl zp2_39)), (a_p3, .inl (cI, 12, .inl zp3_39)), (a_p4, .inl (cI, 12, .inl zp4_39)), (a_new, .inl (cI, 12, .inl (upd q52.2.1 (Int32.toNatClampNeg x8_39) q54)))]) H := hP
                  have hD : va_D A (wO cI cC cH a_p0 ad q11.2 ++ [(a_p1, .inl (cI, 1, .inl zp1_39)), (a_p2, .inl (cI, 12, .inl zp2_39)), (a_p3, .inl (cI, 12, .inl zp3_39)), (a_p4, .inl (cI, 12, .inl zp4_39)), (a_new, .inl (cI, 12, .inl (upd q52.2.1 (Int32.toNatClampNeg x8_39) q54)))]) := hD
                  refine lv_iload hx hb dL_areChoices_275 (lv_at hl 7 rfl) ?_
                  obtain ⟨q62, hb70, h⟩ := bd h
                  have J63 : ∀ (ls : Array Slot) (H : Heap) (locs : List Loc), lv_has ls 13 [(0, .ref a_p0), (1, .ref a_p1), (2, .ref a_p2), (3, .ref a_p3), (4, .ref a_p4), (5, .int x5_39), (6, .ref a_new), (8, .int x8_39)] → va_P D vwCl (wO cI cC cH a_p0 ad q11.2 ++ [(a_p1, .inl (cI, 1, .inl zp1_39)), (a_p2, .inl (cI, 12, .inl zp2_39)), (a_p3, .inl (cI, 12, .inl zp3_39)), (a_p4, .inl (cI, 12, .inl zp4_39)), (a_new, .inl (cI, 12, .inl (upd q52.2.1 (Int32.toNatClampNeg x8_39) q54)))]) H → va_D A (wO cI cC cH a_p0 ad q11.2 ++ [(a_p1, .inl (cI, 1, .inl zp1_39)), (a_p2, .inl (cI, 12, .inl zp2_39)), (a_p3, .inl (cI, 12, .inl zp3_39)), (a_p4, .inl (cI, 12, .inl zp4_39)), (a_new, .inl (cI, 12, .inl (upd q52.2.1 (Int32.toNatClampNeg x8_39) q54)))]) → va_S A s.heap H locs → W p l e (rmn 15 493 101 1212) s m args below meth c H locs q62.1 (12 * q62.1) Q (F0 m 303 ls [.int q62.2]) := by
                    intro ls H locs hl hP hD hS
                    refine lv_istore (lv' := [(7, .int q62.2), (0, .ref a_p0), (1, .ref a_p1), (2, .ref a_p2), (3, .ref a_p3), (4, .ref a_p4), (5, .int x5_39), (6, .ref a_new), (8, .int x8_39)]) hx hb dL_areChoices_303 hl (by decide) rfl (fun ls hl => ?_)
                    obtain rfl := Option.some.inj h
                    exact J16 _ _ _ (lv_sub hl [1, 2, 3, 4, 5, 6, 7, 0, 8] rfl) hP hD hS
                  clear h
                  have h := hb70
                  clear hb70
                  refine lv_if_eq (tgt := 302) hx hb dL_areChoices_277 (by decide) (fun c61 => ?_) (fun c61 => ?_)
                  · have h := itT h c61
                    refine lv_iconst (v := 0) hx hb dL_areChoices_302 (by decide) ?_
                    obtain rfl := Option.some.inj h
                    exact J63 _ _ _ (lv_sub hl [0, 1, 2, 3, 4, 5, 6, 8] rfl) hP hD hS
                  · have h := itF h c61
                    refine lv_iload hx hb dL_areChoices_280 (lv_at hl 9 rfl) ?_
                    refine lv_if_eq (tgt := 298) hx hb dL_areChoices_282 (by decide) (fun c65 => ?_) (fun c65 => ?_)
                    · have h := itT h c65
                      refine lv_iconst (v := 1) hx hb dL_areChoices_298 (by decide) ?_
                      refine lv_goto (tgt := 303) hx hb dL_areChoices_299 (by decide) ?_
                      obtain rfl := Option.some.inj h
                      exact J63 _ _ _ (lv_sub hl [0, 1, 2, 3, 4, 5, 6, 8] rfl) hP hD hS
                    · have h := itF h c65
                      refine lv_aload_n hx hb dL_areChoices_285 rfl (lv_at hl 1 rfl) ?_
                      refine lv_aload_n hx hb dL_areChoices_286 rfl (lv_at hl 2 rfl) ?_
                      refine lv_aload_n hx hb dL_areChoices_287 rfl (lv_at hl 3 rfl) ?_
                      refine lv_aload hx hb dL_areChoices_288 (lv_at hl 6 rfl) ?_
                      obtain ⟨g66, h⟩ := chk_s h
                      have g66 := of_decide_eq_true g66
                      obtain ⟨q67, hq68, h⟩ := bd h
                      refine ksN (ws' := (wO cI cC cH a_p0 ad q11.2 ++ [(a_p1, .inl (cI, 1, .inl zp1_39)), (a_p2, .inl (cI, 12, .inl zp2_39)), (a_p3, .inl (cI, 12, .inl zp3_39)), (a_p4, .inl (cI, 12, .inl zp4_39)), (a_new, .inl (cI, 12, .inl (upd q52.2.1 (Int32.toNatClampNeg x8_39) q54)))])) (wr := (wO cI cC cH a_p0 ad q11.2 ++ [(a_p4, .inl (cI, 12, .inl zp4_39))])) (rest := []) (As := [.ref a_p1, .ref a_p2, .ref a_p3, .ref a_new]) F (c_L_won l D cI cC cH a_p1 a_p2 a_p3 a_new N zp1_39 zp2_39 zp3_39 (upd q52.2.1 (Int32.toNatClampNeg x8_39) q54) q67 hq68) yfL_won ⟨wd2_102, wd2_103⟩ hP hD hS [39, 40, 41, 43] [0, 1, 2, 3, 4, 5, 6, 7, 8, 9, 10, 11, 12, 13, 14, 15, 16, 17, 18, 19, 20, 21, 22, 23, 24, 25, 26, 27, 28, 29, 30, 31, 32, 33, 34, 35, 36, 37, 38, 42] [0, 1, 2, 3, 4, 5, 6, 7, 8, 9, 10, 11, 12, 13, 14, 15, 16, 17, 18, 19, 20, 21, 22, 23, 24, 25, 26, 27, 28, 29, 30, 31, 32, 33, 34, 35, 36, 37, 38, 40, 41, 42, 39, 43] rfl rfl (by decide) (by decide) (by decide) rfl (by decide) ⟨Nat.le_of_ble_eq_true rfl, Nat.le_of_ble_eq_true rfl, (by show _ ≤ 101; omega), (by show _ ≤ 1212; omega)⟩ rfl hl rfl (Nat.le_of_ble_eq_true rfl) dL_areChoices_290 (fun H locs hP hD hS => ?_)
                      refine W.widen (k := q52.2.2 + 1) (n := 12 * (q52.2.2 + 1)) (by omega) (by omega) ?_
                      refine lv_iload hx hb dL_areChoices_293 (lv_at hl 5 rfl) ?_
                      refine lv_icmp_ne (tgt := 302) hx hb dL_areChoices_295 (by decide) (fun c69 => ?_) (fun c69 => ?_)
                      · have h := itF h c69
                        refine lv_iconst (v := 0) hx hb dL_areChoices_302 (by decide) ?_
                        obtain rfl := Option.some.inj h
                        exact J63 _ _ _ (lv_sub hl [0, 1, 2, 3, 4, 5, 6, 8] rfl) hP hD hS
                      · have h := itT h c69
                        refine lv_iconst (v := 1) hx hb dL_areChoices_298 (by decide) ?_
                        refine lv_goto (tgt := 303) hx hb dL_areChoices_299 (by decide) ?_
                        obtain rfl := Option.some.inj h
                        exact J63 _ _ _ (lv_sub hl [0, 1, 2, 3, 4, 5, 6, 8] rfl) hP hD hS
                clear h
                have h := hb71
                clear hb71
                refine lv_if_eq (tgt := 269) hx hb dL_areChoices_254 (by decide) (fun c53 => ?_) (fun c53 => ?_)
                · have h := itT h c53
                  refine lv_aload hx hb dL_areChoices_269 (lv_at hl 4 rfl) ?_
                  refine lv_iload hx hb dL_areChoices_271 (lv_at hl 8 rfl) ?_
                  obtain ⟨g57, h⟩ := chk_s h
                  refine va_iald hx hb hK hP 42 0 rfl rfl (gi_in g57) dL_areChoices_273 ?_
                  obtain rfl := Option.some.inj h
                  exact J55 _ _ _ (lv_sub hl [0, 1, 2, 3, 4, 5, 6, 7, 8, 10] rfl) hP hD hS
                · have h := itF h c53
                  refine lv_iload hx hb dL_areChoices_257 (lv_at hl 10 rfl) ?_
                  refine lv_if_eq (tgt := 269) hx hb dL_areChoices_259 (by decide) (fun c58 => ?_) (fun c58 => ?_)
                  · have h := itT h c58
                    refine lv_aload hx hb dL_areChoices_269 (lv_at hl 4 rfl) ?_
                    refine lv_iload hx hb dL_areChoices_271 (lv_at hl 8 rfl) ?_
                    obtain ⟨g59, h⟩ := chk_s h
                    refine va_iald hx hb hK hP 42 0 rfl rfl (gi_in g59) dL_areChoices_273 ?_
                    obtain rfl := Option.some.inj h
                    exact J55 _ _ _ (lv_sub hl [0, 1, 2, 3, 4, 5, 6, 7, 8, 10] rfl) hP hD hS
                  · have h := itF h c58
                    refine lv_iconst (v := 1) hx hb dL_areChoices_262 (by decide) ?_
                    refine lv_iload hx hb dL_areChoices_263 (lv_at hl 9 rfl) ?_
                    refine lv_ishl hx hb dL_areChoices_265 ?_
                    refine lv_goto (tgt := 274) hx hb dL_areChoices_266 (by decide) ?_
                    obtain rfl := Option.some.inj h
                    exact J55 _ _ _ (lv_sub hl [0, 1, 2, 3, 4, 5, 6, 7, 8, 10] rfl) hP hD hS
              clear h
              have h := hb73
              clear hb73
              refine lv_icmp_lt (tgt := 176) hx hb dL_areChoices_135 (by decide) (fun c27 => ?_) (fun c27 => ?_)
              · have h := itT h c27
                refine lv_iconst (v := 0) hx hb dL_areChoices_176 (by decide) ?_
                obtain rfl := Option.some.inj h
                exact J29 _ _ _ (lv_sub hl [1, 2, 3, 4, 5, 6, 7, 8, 9, 10, 0] rfl) hP hD hS
              · have h := itF h c27
                refine lv_iload hx hb dL_areChoices_138 (lv_at hl 9 rfl) ?_
                refine lv_aload_n hx hb dL_areChoices_140 rfl (lv_at hl 2 rfl) ?_
                refine lv_iconst (v := 0) hx hb dL_areChoices_141 (by decide) ?_
                obtain ⟨g31, h⟩ := chk_s h
                refine va_iald hx hb hK hP 39 0 rfl rfl (gi_in g31) dL_areChoices_142 ?_
                refine lv_icmp_ge (tgt := 176) hx hb dL_areChoices_143 (by decide) (fun c32 => ?_) (fun c32 => ?_)
                · have h := itT h c32
                  refine lv_iconst (v := 0) hx hb dL_areChoices_176 (by decide) ?_
                  obtain rfl := Option.some.inj h
                  exact J29 _ _ _ (lv_sub hl [1, 2, 3, 4, 5, 6, 7, 8, 9, 10, 0] rfl) hP hD hS
                · have h := itF h c32
                  refine lv_aload hx hb dL_areChoices_146 (lv_at hl 5 rfl) ?_
                  refine lv_iload hx hb dL_areChoices_148 (lv_at hl 8 rfl) ?_
                  obtain ⟨g33, h⟩ := chk_s h
                  refine va_iald hx hb hK hP 42 0 rfl rfl (gi_in g33) dL_areChoices_150 ?_
                  refine lv_iload hx hb dL_areChoices_151 (lv_at hl 9 rfl) ?_
                  refine lv_ishr hx hb dL_areChoices_153 ?_
                  refine lv_iconst (v := 1) hx hb dL_areChoices_154 (by decide) ?_
                  refine lv_iand hx hb dL_areChoices_155 ?_
                  refine lv_iconst (v := 1) hx hb dL_areChoices_156 (by decide) ?_
                  refine lv_icmp_ne (tgt := 176) hx hb dL_areChoices_157 (by decide) (fun c34 => ?_) (fun c34 => ?_)
                  · have h := itF h c34
                    refine lv_iconst (v := 0) hx hb dL_areChoices_176 (by decide) ?_
                    obtain rfl := Option.some.inj h
                    exact J29 _ _ _ (lv_sub hl [1, 2, 3, 4, 5, 6, 7, 8, 9, 10, 0] rfl) hP hD hS
                  · have h := itT h c34
                    refine lv_iload hx hb dL_areChoices_160 (lv_at hl 0 rfl) ?_
                    refine lv_if_ne (tgt := 172) hx hb dL_areChoices_162 (by decide) (fun c35 => ?_) (fun c35 => ?_)
                    · have h := itF h c35
                      refine lv_iconst (v := 1) hx hb dL_areChoices_172 (by decide) ?_
                      refine lv_goto (tgt := 177) hx hb dL_areChoices_173 (by decide) ?_
                      obtain rfl := Option.some.inj h
                      exact J29 _ _ _ (lv_sub hl [1, 2, 3, 4, 5, 6, 7, 8, 9, 10, 0] rfl) hP hD hS
                    · have h := itT h c35
                      refine lv_iload hx hb dL_areChoices_165 (lv_at hl 9 rfl) ?_
                      refine lv_iload hx hb dL_areChoices_167 (lv_at hl 10 rfl) ?_
                      refine lv_icmp_ne (tgt := 176) hx hb dL_areChoices_169 (by decide) (fun c36 => ?_) (fun c36 => ?_)
                      · have h := itF h c36
                        refine lv_iconst (v := 0) hx hb dL_areChoices_176 (by decide) ?_
                        obtain rfl := Option.some.inj h
                        exact J29 _ _ _ (lv_sub hl [1, 2, 3, 4, 5, 6, 7, 8, 9, 10, 0] rfl) hP hD hS
                      · have h := itT h c36
                        refine lv_iconst (v := 1) hx hb dL_areChoices_172 (by decide) ?_
                        refine lv_goto (tgt := 177) hx hb dL_areChoices_173 (by decide) ?_
                        obtain rfl := Option.some.inj h
                        exact J29 _ _ _ (lv_sub hl [1, 2, 3, 4, 5, 6, 7, 8, 9, 10, 0] rfl) hP hD hS
            clear h
            have h := hb74
            clear hb74
            refine lv_icmp_ne (tgt := 128) hx hb dL_areChoices_121 (by decide) (fun c23 => ?_) (fun c23 => ?_)
            · have h := itF h c23
              refine lv_iconst (v := 0) hx hb dL_areChoices_128 (by decide) ?_
              obtain rfl := Option.some.inj h
              exact J25 _ _ _ (lv_sub hl [0, 1, 2, 3, 4, 5, 6, 7, 8, 9] rfl) hP hD hS
            · have h := itT h c23
              refine lv_iconst (v := 1) hx hb dL_areChoices_124 (by decide) ?_
              refine lv_goto (tgt := 129) hx hb dL_areChoices_125 (by decide) ?_
              obtain rfl := Option.some.inj h
              exact J25 _ _ _ (lv_sub hl [0, 1, 2, 3, 4, 5, 6, 7, 8, 9] rfl) hP hD hS
          · have h := itT h c14
            refine lv_iload hx hb dL_areChoices_69 (lv_at hl 0 rfl) ?_
            refine lv_bipush (v := (-4)) hx hb dL_areChoices_71 (by decide) ?_
            obtain ⟨q77, hb80, h⟩ := bd h
            have J78 : ∀ (ls : Array Slot) (H : Heap) (locs : List Loc), lv_has ls 13 [(0, .ref a_p0), (1, .ref a_p1), (2, .ref a_p2), (3, .ref a_p3), (4, .ref a_p4), (5, .int x5_39), (6, .ref a_new), (8, .int x8_39)] → va_P D vwCl (wO cI cC cH a_p0 ad q11.2 ++ [(a_p1, .inl (cI, 1, .inl zp1_39)), (a_p2, .inl (cI, 12, .inl zp2_39)), (a_p3, .inl (cI, 12, .inl zp3_39)), (a_p4, .inl (cI, 12, .inl zp4_39)), (a_new, .inl (cI, 12, .inl znew_39))]) H → va_D A (wO cI cC cH a_p0 ad q11.2 ++ [(a_p1, .inl (cI, 1, .inl zp1_39)), (a_p2, .inl (cI, 12, .inl zp2_39)), (a_p3, .inl (cI, 12, .inl zp3_39)), (a_p4, .inl (cI, 12, .inl zp4_39)), (a_new, .inl (cI, 12, .inl znew_39))]) → va_S A s.heap H locs → W p l e (rmn 15 493 101 1212) s m args below meth c H locs znc_39 (12 * znc_39) Q (F0 m 81 ls [.int q77]) := by
              intro ls H locs hl hP hD hS
              refine lv_istore (lv' := [(7, .int q77), (0, .ref a_p0), (1, .ref a_p1), (2, .ref a_p2), (3, .ref a_p3), (4, .ref a_p4), (5, .int x5_39), (6, .ref a_new), (8, .int x8_39)]) hx hb dL_areChoices_81 hl (by decide) rfl (fun ls hl => ?_)
              refine lv_goto (tgt := 305) hx hb dL_areChoices_83 (by decide) ?_
              obtain rfl := Option.some.inj h
              exact J16 _ _ _ (lv_sub hl [1, 2, 3, 4, 5, 6, 7, 0, 8] rfl) hP hD hS
            clear h
            have h := hb80
            clear hb80
            refine lv_icmp_ne (tgt := 80) hx hb dL_areChoices_73 (by decide) (fun c76 => ?_) (fun c76 => ?_)
            · have h := itF h c76
              refine lv_iconst (v := 0) hx hb dL_areChoices_80 (by decide) ?_
              obtain rfl := Option.some.inj h
              exact J78 _ _ _ (lv_sub hl [1, 2, 3, 4, 5, 6, 7, 9] rfl) hP hD hS
            · have h := itT h c76
              refine lv_iconst (v := 1) hx hb dL_areChoices_76 (by decide) ?_
              refine lv_goto (tgt := 81) hx hb dL_areChoices_77 (by decide) ?_
              obtain rfl := Option.some.inj h
              exact J78 _ _ _ (lv_sub hl [1, 2, 3, 4, 5, 6, 7, 9] rfl) hP hD hS
  obtain ⟨q83, hb86, h⟩ := bd h
  refine L_39 x5 zp1 zp2 zp3 zp4 N 1 0 zp0 q6 1 q83 hb86 ?_ _ _ _ (lv_sub hl [1, 2, 3, 4, 5, 6, 7, 8, 0] rfl) hP hD hS
  intro ls H locs hl hP hD hS
  refine lv_iload hx hb dL_areChoices_311 (lv_at hl 0 rfl) ?_
  obtain ⟨g84, h⟩ := chk_s h
  have g84 := of_decide_eq_true g84
  obtain ⟨g85, h⟩ := chk_s h
  obtain rfl := Option.some.inj h
  exact hret _ _ _ _ _ _ _ (isZ_n g85) (by omega) (by omega) rfl (hP.sub [0, 1, 2, 3, 4, 5, 6, 7, 8, 9, 10, 11, 12, 13, 14, 15, 16, 17, 18, 19, 20, 21, 22, 23, 24, 25, 26, 27, 28, 29, 30, 31, 32, 33, 34, 35, 36, 37, 38, 39, 40, 41, 42] rfl) (hD.sub [0, 1, 2, 3, 4, 5, 6, 7, 8, 9, 10, 11, 12, 13, 14, 15, 16, 17, 18, 19, 20, 21, 22, 23, 24, 25, 26, 27, 28, 29, 30, 31, 32, 33, 34, 35, 36, 37, 38, 39, 40, 41, 42] (by decide) rfl) hS dL_areChoices_313
def f_L_isSo_L45 (N : Nat) (x11_45 : Int32) (zp1_45 : Nat → Int32) (zp4_45 : Nat → Int32) : Nat → Int32 → Int32 → Option (Int32)
  | 0, _, _ => none
  | n_45 + 1, x12_45, x13_45 =>
    chk (gi 0 1) (if (zp1_45 (Int32.toNatClampNeg 0)) ≤ x13_45 then (some x12_45) else (chk (gi x13_45 12) (f_L_isSo_L45 N x11_45 zp1_45 zp4_45 n_45 (x12_45 ||| ((((zp4_45 (Int32.toNatClampNeg x13_45)) >>> (x11_45 &&& 31)) &&& 1) <<< (x13_45 &&& 31))) (x13_45 + 1))))
def f_L_isSo_L26 (N : Nat) (x6_26 : Int32) (zp1_26 : Nat → Int32) (zp2_26 : Nat → Int32) (zp3_26 : Nat → Int32) (zp4_26 : Nat → Int32) (znc_26 : Nat) : Nat → Int32 → Int32 → Int32 → Int32 → Int32 → XS → Option (Int32 × Int32 × Int32 × Int32 × XS)
  | 0, _, _, _, _, _, _ => none
  | n_26 + 1, x7_26, x8_26, x9_26, x10_26, x11_26, zp0_26 =>
    chk (gi 0 1) (if (zp1_26 (Int32.toNatClampNeg 0)) ≤ x11_26 then (some (x7_26, x8_26, x9_26, x10_26, zp0_26)) else (if x10_26 = 0 then (some (x7_26, x8_26, x9_26, x10_26, zp0_26)) else (Option.bind (f_L_isSo_L45 N x11_26 zp1_26 zp4_26 N 0 0) (fun q11 => chk (gi x11_26 12) (chk (decide (znc_26 + 0 ≤ 103)) (Option.bind (f_L_ones N (zp4_26 (Int32.toNatClampNeg x11_26))) (fun q14 => chk (gi x11_26 12) (Option.bind (α := Int32) (if (zp4_26 (Int32.toNatClampNeg x11_26)) = 0 then (some ((1 : Int32) <<< (x11_26 &&& 31))) else (some (0))) (fun q18 => chk (gi x11_26 12) (Option.bind (α := Int32) (if (zp3_26 (Int32.toNatClampNeg x11_26)) ≤ x9_26 then (some (x9_26)) else (chk (gi x11_26 12) (some (zp3_26 (Int32.toNatClampNeg x11_26))))) (fun q23 => chk (decide (znc_26 + 0 ≤ 103)) (Option.bind (x_placeOf N x11_26 0 zp0_26) (fun q28 => chk (gi x11_26 12) (Option.bind (α := XS × Int32) (if q28.1 = (zp2_26 (Int32.toNatClampNeg x11_26)) then (chk (decide (znc_26 + 0 ≤ 103)) (Option.bind (x_placeOf N x11_26 1 q28.2) (fun q36 => chk (gi x11_26 12) (if q36.1 = (zp3_26 (Int32.toNatClampNeg x11_26)) then (chk (decide (znc_26 + 0 ≤ 103)) (Option.bind (x_placeOf N x11_26 2 q36.2) (fun q41 => chk (gi x11_26 12) (if q41.1 = (zp4_26 (Int32.toNatClampNeg x11_26)) then (chk (decide (znc_26 + 0 ≤ 103)) (Option.bind (x_placeOf N x11_26 3 q41.2) (fun q46 => if q46.1 = q11 then (chk (decide (znc_26 + 0 ≤ 103)) (Option.bind (x_placeOf N x11_26 4 q46.2) (fun q50 => if q50.1 = (1 - ((x6_26 >>> (x11_26 &&& 31)) &&& 1)) then (chk (decide (znc_26 + 0 ≤ 103)) (Option.bind (x_placeOf N x11_26 6 q50.2) (fun q54 => if q54.1 = (-1) then (some (q54.2, 1)) else (some (q54.2, 0))))) else (some (q50.2, 0))))) else (some (q46.2, 0))))) else (some (q41.2, 0)))))) else (some (q36.2, 0)))))) else (some (q28.2, 0))) (fun q32 => f_L_isSo_L26 N x6_26 zp1_26 zp2_26 zp3_26 zp4_26 znc_26 n_26 (x7_26 + q14) (x8_26 ||| q18) q23 q32.2 (x11_26 + 1) q32.1)))))))))))))))
def f_L_isSo (N : Nat) (x5 : Int32) (zp0 : XS) (zp1 : Nat → Int32) (zp2 : Nat → Int32) (zp3 : Nat → Int32) (zp4 : Nat → Int32) : Option (Int32 × XS) :=
    chk (decide (0 + 1 ≤ 103)) (Option.bind (f_L_won N zp1 zp2 zp3 zp4) (fun q2 => Option.bind (f_L_isSo_L26 N q2 zp1 zp2 zp3 zp4 (0 + 1) N 0 0 (-4) 1 0 zp0) (fun q62 => if q62.2.2.2.1 = 0 then (chk (decide ((0 + 1) ≤ 103)) (some (0, q62.2.2.2.2))) else (chk (decide ((0 + 1) + 0 ≤ 103)) (Option.bind (x_count N 0 q62.2.2.2.2) (fun q66 => chk (gi 0 1) (if q66.1 = (zp1 (Int32.toNatClampNeg 0)) then (chk (decide ((0 + 1) + 0 ≤ 103)) (Option.bind (x_count N 1 q66.2) (fun q72 => if q72.1 = q62.1 then (chk (decide ((0 + 1) + 0 ≤ 103)) (Option.bind (x_count N 2 q72.2) (fun q77 => if q77.1 = q2 then (chk (decide ((0 + 1) + 0 ≤ 103)) (Option.bind (x_count N 3 q77.2) (fun q82 => chk (decide ((0 + 1) + 0 ≤ 103)) (Option.bind (f_L_all N zp1) (fun q85 => if q82.1 = (q85 - q2) then (chk (decide ((0 + 1) + 0 ≤ 103)) (Option.bind (x_count N 4 q82.2) (fun q90 => if q90.1 = q62.2.1 then (chk (decide ((0 + 1) + 0 ≤ 103)) (Option.bind (x_count N 5 q90.2) (fun q95 => if q95.1 = q62.2.2.1 then (chk (decide ((0 + 1) + 0 ≤ 103)) (Option.bind (x_count N 7 q95.2) (fun q100 => if q100.1 = 0 then (chk (gi 0 1) (chk (decide ((0 + 1) + 0 ≤ 103)) (Option.bind (x_placeOf N (zp1 (Int32.toNatClampNeg 0)) 0 q100.2) (fun q106 => if q106.1 = (-1) then (Option.bind (α := (Int32 × XS) ⊕ (XS × Nat)) (if x5 = 0 then (some (.inr (q106.2, 0 + 1))) else (chk (decide ((0 + 1) + 101 ≤ 103)) (Option.bind (f_L_areChoices N q2 q106.2 zp1 zp2 zp3 zp4) (fun q116 => if q116.1 = 0 then (chk (decide (((0 + 1) + 101) ≤ 103)) (some (.inl (0, q116.2)))) else (some (.inr (q116.2, (0 + 1) + 101))))))) (fun q111 => sm q111 some (fun t112 => chk (decide (t112.2 ≤ 103)) (some (1, t112.1))))) else (chk (decide ((0 + 1) ≤ 103)) (some (0, q106.2))))))) else (chk (decide ((0 + 1) ≤ 103)) (some (0, q100.2)))))) else (chk (decide ((0 + 1) ≤ 103)) (some (0, q95.2)))))) else (chk (decide ((0 + 1) ≤ 103)) (some (0, q90.2)))))) else (chk (decide ((0 + 1) ≤ 103)) (some (0, q82.2)))))))) else (chk (decide ((0 + 1) ≤ 103)) (some (0, q77.2)))))) else (chk (decide ((0 + 1) ≤ 103)) (some (0, q72.2)))))) else (chk (decide ((0 + 1) ≤ 103)) (some (0, q66.2))))))))))
set_option maxHeartbeats 4000000 in
set_option maxRecDepth 100000 in
theorem c_L_isSo (l : Launch) (D : va_G) (cI cC cH : ClassId) (a_p0 : Nat) (ad : Nat → Nat) (a_p1 : Nat) (a_p2 : Nat) (a_p3 : Nat) (a_p4 : Nat) (N : Nat) (x5 : Int32) (zp0 : XS) (zp1 : Nat → Int32) (zp2 : Nat → Int32) (zp3 : Nat → Int32) (zp4 : Nat → Int32) (y : Int32 × XS) (h : f_L_isSo N x5 zp0 zp1 zp2 zp3 zp4 = some y) : CTn l yL_isSo cL_isSo 14 .boolean 16 525 103 1236 D (tyL cI cC cH) [.ref a_p0, .ref a_p1, .ref a_p2, .ref a_p3, .ref a_p4, .int x5] (wO cI cC cH a_p0 ad zp0 ++ [(a_p1, .inl (cI, 1, .inl zp1)), (a_p2, .inl (cI, 12, .inl zp2)), (a_p3, .inl (cI, 12, .inl zp3)), (a_p4, .inl (cI, 12, .inl zp4))]) (wO cI cC cH a_p0 ad y.2 ++ [(a_p1, .inl (cI, 1, .inl zp1)), (a_p2, .inl (cI, 12, .inl zp2)), (a_p3, .inl (cI, 12, .inl zp3)), (a_p4, .inl (cI, 12, .inl zp4))]) y.1 := by
  unfold f_L_isSo at h
  refine ctN (by decide) (Nat.le_of_ble_eq_true rfl) ?_
  intro p e s m args below meth c A Q ls F hret hP hD hS hl
  have hx := F.1
  have hb := F.2.1
  have hown : s.vm.findClass RL = some m.cls := F.2.2.2.1
  have hts := F.2.2.2.2.1
  have hN := F.2.2.2.2.2.1
  have hK := F.2.2.2.2.2.2.1
  have hl : lv_has ls 14 [(0, .ref a_p0), (1, .ref a_p1), (2, .ref a_p2), (3, .ref a_p3), (4, .ref a_p4), (5, .int x5)] := hl
  have hA := F.2.2.2.2.2.2.2
  refine lv_aload_n hx hb dL_isSo_0 rfl (lv_at hl 1 rfl) ?_
  refine lv_aload_n hx hb dL_isSo_1 rfl (lv_at hl 2 rfl) ?_
  refine lv_aload_n hx hb dL_isSo_2 rfl (lv_at hl 3 rfl) ?_
  refine lv_aload hx hb dL_isSo_3 (lv_at hl 4 rfl) ?_
  obtain ⟨g1, h⟩ := chk_s h
  have g1 := of_decide_eq_true g1
  obtain ⟨q2, hq3, h⟩ := bd h
  refine ksN (ws' := (wO cI cC cH a_p0 ad zp0 ++ [(a_p1, .inl (cI, 1, .inl zp1)), (a_p2, .inl (cI, 12, .inl zp2)), (a_p3, .inl (cI, 12, .inl zp3)), (a_p4, .inl (cI, 12, .inl zp4))])) (wr := (wO cI cC cH a_p0 ad zp0 ++ [])) (rest := []) (As := [.ref a_p1, .ref a_p2, .ref a_p3, .ref a_p4]) F (c_L_won l D cI cC cH a_p1 a_p2 a_p3 a_p4 N zp1 zp2 zp3 zp4 q2 hq3) yfL_won ⟨wd2_102, wd2_103⟩ hP hD hS [39, 40, 41, 42] [0, 1, 2, 3, 4, 5, 6, 7, 8, 9, 10, 11, 12, 13, 14, 15, 16, 17, 18, 19, 20, 21, 22, 23, 24, 25, 26, 27, 28, 29, 30, 31, 32, 33, 34, 35, 36, 37, 38] [0, 1, 2, 3, 4, 5, 6, 7, 8, 9, 10, 11, 12, 13, 14, 15, 16, 17, 18, 19, 20, 21, 22, 23, 24, 25, 26, 27, 28, 29, 30, 31, 32, 33, 34, 35, 36, 37, 38, 39, 40, 41, 42] rfl rfl (by decide) (by decide) (by decide) rfl (by decide) ⟨Nat.le_of_ble_eq_true rfl, Nat.le_of_ble_eq_true rfl, (by show _ ≤ 103; omega), (by show _ ≤ 1236; omega)⟩ rfl hl rfl (Nat.le_of_ble_eq_true rfl) dL_isSo_5 (fun H locs hP hD hS => ?_)
  refine W.widen (k := 0 + 1) (n := 12 * (0 + 1)) (by omega) (by omega) ?_
  refine lv_istore (lv' := [(6, .int q2), (0, .ref a_p0), (1, .ref a_p1), (2, .ref a_p2), (3, .ref a_p3), (4, .ref a_p4), (5, .int x5)]) hx hb dL_isSo_8 hl (by decide) rfl (fun ls hl => ?_)
  refine lv_iconst (v := 0) hx hb dL_isSo_10 (by decide) ?_
  refine lv_istore (lv' := [(7, .int 0), (6, .int q2), (0, .ref a_p0), (1, .ref a_p1), (2, .ref a_p2), (3, .ref a_p3), (4, .ref a_p4), (5, .int x5)]) hx hb dL_isSo_11 hl (by decide) rfl (fun ls hl => ?_)
  refine lv_iconst (v := 0) hx hb dL_isSo_13 (by decide) ?_
  refine lv_istore (lv' := [(8, .int 0), (7, .int 0), (6, .int q2), (0, .ref a_p0), (1, .ref a_p1), (2, .ref a_p2), (3, .ref a_p3), (4, .ref a_p4), (5, .int x5)]) hx hb dL_isSo_14 hl (by decide) rfl (fun ls hl => ?_)
  refine lv_bipush (v := (-4)) hx hb dL_isSo_16 (by decide) ?_
  refine lv_istore (lv' := [(9, .int (-4)), (8, .int 0), (7, .int 0), (6, .int q2), (0, .ref a_p0), (1, .ref a_p1), (2, .ref a_p2), (3, .ref a_p3), (4, .ref a_p4), (5, .int x5)]) hx hb dL_isSo_18 hl (by decide) rfl (fun ls hl => ?_)
  refine lv_iconst (v := 1) hx hb dL_isSo_20 (by decide) ?_
  refine lv_istore (lv' := [(10, .int 1), (9, .int (-4)), (8, .int 0), (7, .int 0), (6, .int q2), (0, .ref a_p0), (1, .ref a_p1), (2, .ref a_p2), (3, .ref a_p3), (4, .ref a_p4), (5, .int x5)]) hx hb dL_isSo_21 hl (by decide) rfl (fun ls hl => ?_)
  refine lv_iconst (v := 0) hx hb dL_isSo_23 (by decide) ?_
  refine lv_istore (lv' := [(11, .int 0), (10, .int 1), (9, .int (-4)), (8, .int 0), (7, .int 0), (6, .int q2), (0, .ref a_p0), (1, .ref a_p1), (2, .ref a_p2), (3, .ref a_p3), (4, .ref a_p4), (5, .int x5)]) hx hb dL_isSo_24 hl (by decide) rfl (fun ls hl => ?_)
  have L_26 : ∀ (x5_26 : Int32) (x6_26 : Int32) (zp1_26 : Nat → Int32) (zp2_26 : Nat → Int32) (zp3_26 : Nat → Int32) (zp4_26 : Nat → Int32) (znc_26 : Nat), ∀ (n_26 : Nat) (x7_26 : Int32) (x8_26 : Int32) (x9_26 : Int32) (x10_26 : Int32) (x11_26 : Int32) (zp0_26 : XS) (q61 : (Int32 × Int32 × Int32 × Int32 × XS)), f_L_isSo_L26 N x6_26 zp1_26 zp2_26 zp3_26 zp4_26 znc_26 n_26 x7_26 x8_26 x9_26 x10_26 x11_26 zp0_26 = some q61 → (∀ (ls : Array Slot) (H : Heap) (locs : List Loc), lv_has ls 14 [(0, .ref a_p0), (1, .ref a_p1), (2, .ref a_p2), (3, .ref a_p3), (4, .ref a_p4), (5, .int x5_26), (6, .int x6_26), (7, .int q61.1), (8, .int q61.2.1), (9, .int q61.2.2.1), (10, .int q61.2.2.2.1)] → va_P D vwCl (wO cI cC cH a_p0 ad q61.2.2.2.2 ++ [(a_p1, .inl (cI, 1, .inl zp1_26)), (a_p2, .inl (cI, 12, .inl zp2_26)), (a_p3, .inl (cI, 12, .inl zp3_26)), (a_p4, .inl (cI, 12, .inl zp4_26))]) H → va_D A (wO cI cC cH a_p0 ad q61.2.2.2.2 ++ [(a_p1, .inl (cI, 1, .inl zp1_26)), (a_p2, .inl (cI, 12, .inl zp2_26)), (a_p3, .inl (cI, 12, .inl zp3_26)), (a_p4, .inl (cI, 12, .inl zp4_26))]) → va_S A s.heap H locs → W p l e (rmn 16 525 103 1236) s m args below meth c H locs znc_26 (12 * znc_26) Q (F0 m 230 ls [])) → ∀ (ls : Array Slot) (H : Heap) (locs : List Loc), lv_has ls 14 [(0, .ref a_p0), (1, .ref a_p1), (2, .ref a_p2), (3, .ref a_p3), (4, .ref a_p4), (5, .int x5_26), (6, .int x6_26), (7, .int x7_26), (8, .int x8_26), (9, .int x9_26), (10, .int x10_26), (11, .int x11_26)] → va_P D vwCl (wO cI cC cH a_p0 ad zp0_26 ++ [(a_p1, .inl (cI, 1, .inl zp1_26)), (a_p2, .inl (cI, 12, .inl zp2_26)), (a_p3, .inl (cI, 12, .inl zp3_26)), (a_p4, .inl (cI, 12, .inl zp4_26))]) H → va_D A (wO cI cC cH a_p0 ad zp0_26 ++ [(a_p1, .inl (cI, 1, .inl zp1_26)), (a_p2, .inl (cI, 12, .inl zp2_26)), (a_p3, .inl (cI, 12, .inl zp3_26)), (a_p4, .inl (cI, 12, .inl zp4_26))]) → va_S A s.heap H locs → W p l e (rmn 16 525 103 1236) s m args below meth c H locs znc_26 (12 * znc_26) Q (F0 m 26 ls []) := by
    intro x5_26 x6_26 zp1_26 zp2_26 zp3_26 zp4_26 znc_26 n_26
    induction n_26 with
    | zero => intro x7_26 x8_26 x9_26 x10_26 x11_26 zp0_26 q61 h; exact no_s h
    | succ n_26 ih_26 =>
      intro x7_26 x8_26 x9_26 x10_26 x11_26 zp0_26 q61 h J_26 ls H locs hl hP hD hS
      rw [f_L_isSo_L26] at h
      refine lv_iload hx hb dL_isSo_26 (lv_at hl 11 rfl) ?_
      refine lv_aload_n hx hb dL_isSo_28 rfl (lv_at hl 1 rfl) ?_
      refine lv_iconst (v := 0) hx hb dL_isSo_29 (by decide) ?_
      obtain ⟨g4, h⟩ := chk_s h
      refine va_iald hx hb hK hP 39 0 rfl rfl (gi_in g4) dL_isSo_30 ?_
      refine lv_icmp_ge (tgt := 230) hx hb dL_isSo_31 (by decide) (fun c5 => ?_) (fun c5 => ?_)
      · have h := itT h c5
        obtain rfl := Option.some.inj h
        exact J_26 _ _ _ (lv_sub hl [0, 1, 2, 3, 4, 5, 6, 7, 8, 9, 10] rfl) hP hD hS
      · have h := itF h c5
        refine lv_iload hx hb dL_isSo_34 (lv_at hl 10 rfl) ?_
        refine lv_if_eq (tgt := 230) hx hb dL_isSo_36 (by decide) (fun c6 => ?_) (fun c6 => ?_)
        · have h := itT h c6
          obtain rfl := Option.some.inj h
          exact J_26 _ _ _ (lv_sub hl [0, 1, 2, 3, 4, 5, 6, 7, 8, 9, 10] rfl) hP hD hS
        · have h := itF h c6
          refine lv_iconst (v := 0) hx hb dL_isSo_39 (by decide) ?_
          refine lv_istore (lv' := [(12, .int 0), (0, .ref a_p0), (1, .ref a_p1), (2, .ref a_p2), (3, .ref a_p3), (4, .ref a_p4), (5, .int x5_26), (6, .int x6_26), (7, .int x7_26), (8, .int x8_26), (9, .int x9_26), (10, .int x10_26), (11, .int x11_26)]) hx hb dL_isSo_40 hl (by decide) rfl (fun ls hl => ?_)
          refine lv_iconst (v := 0) hx hb dL_isSo_42 (by decide) ?_
          refine lv_istore (lv' := [(13, .int 0), (12, .int 0), (0, .ref a_p0), (1, .ref a_p1), (2, .ref a_p2), (3, .ref a_p3), (4, .ref a_p4), (5, .int x5_26), (6, .int x6_26), (7, .int x7_26), (8, .int x8_26), (9, .int x9_26), (10, .int x10_26), (11, .int x11_26)]) hx hb dL_isSo_43 hl (by decide) rfl (fun ls hl => ?_)
          have L_45 : ∀ (x5_45 : Int32) (x6_45 : Int32) (x7_45 : Int32) (x8_45 : Int32) (x9_45 : Int32) (x11_45 : Int32) (zp0_45 : XS) (zp1_45 : Nat → Int32) (zp2_45 : Nat → Int32) (zp3_45 : Nat → Int32) (zp4_45 : Nat → Int32) (znc_45 : Nat), ∀ (n_45 : Nat) (x12_45 : Int32) (x13_45 : Int32) (q10 : (Int32)), f_L_isSo_L45 N x11_45 zp1_45 zp4_45 n_45 x12_45 x13_45 = some q10 → (∀ (ls : Array Slot) (H : Heap) (locs : List Loc), lv_has ls 14 [(0, .ref a_p0), (1, .ref a_p1), (2, .ref a_p2), (3, .ref a_p3), (4, .ref a_p4), (5, .int x5_45), (6, .int x6_45), (7, .int x7_45), (8, .int x8_45), (9, .int x9_45), (11, .int x11_45), (12, .int q10)] → va_P D vwCl (wO cI cC cH a_p0 ad zp0_45 ++ [(a_p1, .inl (cI, 1, .inl zp1_45)), (a_p2, .inl (cI, 12, .inl zp2_45)), (a_p3, .inl (cI, 12, .inl zp3_45)), (a_p4, .inl (cI, 12, .inl zp4_45))]) H → va_D A (wO cI cC cH a_p0 ad zp0_45 ++ [(a_p1, .inl (cI, 1, .inl zp1_45)), (a_p2, .inl (cI, 12, .inl zp2_45)), (a_p3, .inl (cI, 12, .inl zp3_45)), (a_p4, .inl (cI, 12, .inl zp4_45))]) → va_S A s.heap H locs → W p l e (rmn 16 525 103 1236) s m args below meth c H locs znc_45 (12 * znc_45) Q (F0 m 77 ls [])) → ∀ (ls : Array Slot) (H : Heap) (locs : List Loc), lv_has ls 14 [(0, .ref a_p0), (1, .ref a_p1), (2, .ref a_p2), (3, .ref a_p3), (4, .ref a_p4), (5, .int x5_45), (6, .int x6_45), (7, .int x7_45), (8, .int x8_45), (9, .int x9_45), (11, .int x11_45), (12, .int x12_45), (13, .int x13_45)] → va_P D vwCl (wO cI cC cH a_p0 ad zp0_45 ++ [(a_p1, .inl (cI, 1, .inl zp1_45)), (a_p2, .inl (cI, 12, .inl zp2_45)), (a_p3, .inl (cI, 12, .inl zp3_45)), (a_p4, .inl (cI, 12, .inl zp4_45))]) H → va_D A (wO cI cC cH a_p0 ad zp0_45 ++ [(a_p1, .inl (cI, 1, .inl zp1_45)), (a_p2, .inl (cI, 12, .inl zp2_45)), (a_p3, .inl (cI, 12, .inl zp3_45)), (a_p4, .inl (cI, 12, .inl zp4_45))]) → va_S A s.heap H locs → W p l e (rmn 16 525 103 1236) s m args below meth c H locs znc_45 (12 * znc_45) Q (F0 m 45 ls []) := by
            intro x5_45 x6_45 x7_45 x8_45 x9_45 x11_45 zp0_45 zp1_45 zp2_45 zp3_45 zp4_45 znc_45 n_45
            induction n_45 with
            | zero => intro x12_45 x13_45 q10 h; exact no_s h
            | succ n_45 ih_45 =>
              intro x12_45 x13_45 q10 h J_45 ls H locs hl hP hD hS
              rw [f_L_isSo_L45] at h
              refine lv_iload hx hb dL_isSo_45 (lv_at hl 12 rfl) ?_
              refine lv_aload_n hx hb dL_isSo_47 rfl (lv_at hl 1 rfl) ?_
              refine lv_iconst (v := 0) hx hb dL_isSo_48 (by decide) ?_
              obtain ⟨g7, h⟩ := chk_s h
              refine va_iald hx hb hK hP 39 0 rfl rfl (gi_in g7) dL_isSo_49 ?_
              refine lv_icmp_ge (tgt := 77) hx hb dL_isSo_50 (by decide) (fun c8 => ?_) (fun c8 => ?_)
              · have h := itT h c8
                obtain rfl := Option.some.inj h
                exact J_45 _ _ _ (lv_sub hl [0, 1, 2, 3, 4, 5, 6, 7, 8, 9, 10, 11] rfl) hP hD hS
              · have h := itF h c8
                refine lv_iload hx hb dL_isSo_53 (lv_at hl 11 rfl) ?_
                refine lv_aload hx hb dL_isSo_55 (lv_at hl 4 rfl) ?_
                refine lv_iload hx hb dL_isSo_57 (lv_at hl 12 rfl) ?_
                obtain ⟨g9, h⟩ := chk_s h
                refine va_iald hx hb hK hP 42 0 rfl rfl (gi_in g9) dL_isSo_59 ?_
                refine lv_iload hx hb dL_isSo_60 (lv_at hl 10 rfl) ?_
                refine lv_ishr hx hb dL_isSo_62 ?_
                refine lv_iconst (v := 1) hx hb dL_isSo_63 (by decide) ?_
                refine lv_iand hx hb dL_isSo_64 ?_
                refine lv_iload hx hb dL_isSo_65 (lv_at hl 12 rfl) ?_
                refine lv_ishl hx hb dL_isSo_67 ?_
                refine lv_ior hx hb dL_isSo_68 ?_
                refine lv_istore (lv' := [(12, .int (x12_45 ||| ((((zp4_45 (Int32.toNatClampNeg x13_45)) >>> (x11_45 &&& 31)) &&& 1) <<< (x13_45 &&& 31)))), (0, .ref a_p0), (1, .ref a_p1), (2, .ref a_p2), (3, .ref a_p3), (4, .ref a_p4), (5, .int x5_45), (6, .int x6_45), (7, .int x7_45), (8, .int x8_45), (9, .int x9_45), (11, .int x11_45), (13, .int x13_45)]) hx hb dL_isSo_69 hl (by decide) rfl (fun ls hl => ?_)
                refine lv_iinc (v := x13_45 + 1) (lv' := [(13, .int (x13_45 + 1)), (12, .int (x12_45 ||| ((((zp4_45 (Int32.toNatClampNeg x13_45)) >>> (x11_45 &&& 31)) &&& 1) <<< (x13_45 &&& 31)))), (0, .ref a_p0), (1, .ref a_p1), (2, .ref a_p2), (3, .ref a_p3), (4, .ref a_p4), (5, .int x5_45), (6, .int x6_45), (7, .int x7_45), (8, .int x8_45), (9, .int x9_45), (11, .int x11_45)]) hx hb dL_isSo_71 hl (k := 12) rfl rfl (by decide) rfl (fun ls hl => ?_)
                refine lv_goto (tgt := 45) hx hb dL_isSo_74 (by decide) ?_
                exact ih_45 (x12_45 ||| ((((zp4_45 (Int32.toNatClampNeg x13_45)) >>> (x11_45 &&& 31)) &&& 1) <<< (x13_45 &&& 31))) (x13_45 + 1) _ h J_45 _ _ _ (lv_sub hl [2, 3, 4, 5, 6, 7, 8, 9, 10, 11, 12, 1, 0] rfl) hP hD hS
          obtain ⟨q11, hb60, h⟩ := bd h
          refine L_45 x5_26 x6_26 x7_26 x8_26 x9_26 x11_26 zp0_26 zp1_26 zp2_26 zp3_26 zp4_26 znc_26 N 0 0 q11 hb60 ?_ _ _ _ (lv_sub hl [2, 3, 4, 5, 6, 7, 8, 9, 10, 11, 13, 1, 0] rfl) hP hD hS
          intro ls H locs hl hP hD hS
          refine lv_iload hx hb dL_isSo_77 (lv_at hl 7 rfl) ?_
          refine lv_aload hx hb dL_isSo_79 (lv_at hl 4 rfl) ?_
          refine lv_iload hx hb dL_isSo_81 (lv_at hl 10 rfl) ?_
          obtain ⟨g12, h⟩ := chk_s h
          refine va_iald hx hb hK hP 42 0 rfl rfl (gi_in g12) dL_isSo_83 ?_
          obtain ⟨g13, h⟩ := chk_s h
          have g13 := of_decide_eq_true g13
          obtain ⟨q14, hq15, h⟩ := bd h
          refine ks0N (rest := [.int x7_26]) (As := [.int (zp4_26 (Int32.toNatClampNeg x11_26))]) F (c_L_ones l D cI cC cH  N (zp4_26 (Int32.toNatClampNeg x11_26)) q14 hq15) yfL_ones ⟨wd2_14, wd2_15⟩ hP hD hS ⟨Nat.le_of_ble_eq_true rfl, Nat.le_of_ble_eq_true rfl, (by show _ ≤ 103; omega), (by show _ ≤ 1236; omega)⟩ rfl hl rfl (Nat.le_of_ble_eq_true rfl) dL_isSo_84 (fun H locs hP hD hS => ?_)
          refine lv_iadd hx hb dL_isSo_87 ?_
          refine lv_istore (lv' := [(7, .int (x7_26 + q14)), (0, .ref a_p0), (1, .ref a_p1), (2, .ref a_p2), (3, .ref a_p3), (4, .ref a_p4), (5, .int x5_26), (6, .int x6_26), (8, .int x8_26), (9, .int x9_26), (11, .int x11_26), (12, .int q11)]) hx hb dL_isSo_88 hl (by decide) rfl (fun ls hl => ?_)
          refine lv_iload hx hb dL_isSo_90 (lv_at hl 8 rfl) ?_
          refine lv_aload hx hb dL_isSo_92 (lv_at hl 5 rfl) ?_
          refine lv_iload hx hb dL_isSo_94 (lv_at hl 10 rfl) ?_
          obtain ⟨g16, h⟩ := chk_s h
          refine va_iald hx hb hK hP 42 0 rfl rfl (gi_in g16) dL_isSo_96 ?_
          obtain ⟨q18, hb59, h⟩ := bd h
          have J19 : ∀ (ls : Array Slot) (H : Heap) (locs : List Loc), lv_has ls 14 [(0, .ref a_p0), (1, .ref a_p1), (2, .ref a_p2), (3, .ref a_p3), (4, .ref a_p4), (5, .int x5_26), (6, .int x6_26), (7, .int (x7_26 + q14)), (9, .int x9_26), (11, .int x11_26), (12, .int q11)] → va_P D vwCl (wO cI cC cH a_p0 ad zp0_26 ++ [(a_p1, .inl (cI, 1, .inl zp1_26)), (a_p2, .inl (cI, 12, .inl zp2_26)), (a_p3, .inl (cI, 12, .inl zp3_26)), (a_p4, .inl (cI, 12, .inl zp4_26))]) H → va_D A (wO cI cC cH a_p0 ad zp0_26 ++ [(a_p1, .inl (cI, 1, .inl zp1_26)), (a_p2, .inl (cI, 12, .inl zp2_26)), (a_p3, .inl (cI, 12, .inl zp3_26)), (a_p4, .inl (cI, 12, .inl zp4_26))]) → va_S A s.heap H locs → W p l e (rmn 16 525 103 1236) s m args below meth c H locs znc_26 (12 * znc_26) Q (F0 m 108 ls [.int q18, .int x8_26]) := by
            intro ls H locs hl hP hD hS
            refine lv_ior hx hb dL_isSo_108 ?_
            refine lv_istore (lv' := [(8, .int (x8_26 ||| q18)), (0, .ref a_p0), (1, .ref a_p1), (2, .ref a_p2), (3, .ref a_p3), (4, .ref a_p4), (5, .int x5_26), (6, .int x6_26), (7, .int (x7_26 + q14)), (9, .int x9_26), (11, .int x11_26), (12, .int q11)]) hx hb dL_isSo_109 hl (by decide) rfl (fun ls hl => ?_)
            refine lv_aload_n hx hb dL_isSo_111 rfl (lv_at hl 4 rfl) ?_
            refine lv_iload hx hb dL_isSo_112 (lv_at hl 10 rfl) ?_
            obtain ⟨g21, h⟩ := chk_s h
            refine va_iald hx hb hK hP 41 0 rfl rfl (gi_in g21) dL_isSo_114 ?_
            refine lv_iload hx hb dL_isSo_115 (lv_at hl 9 rfl) ?_
            obtain ⟨q23, hb58, h⟩ := bd h
            have J24 : ∀ (ls : Array Slot) (H : Heap) (locs : List Loc), lv_has ls 14 [(0, .ref a_p0), (1, .ref a_p1), (2, .ref a_p2), (3, .ref a_p3), (4, .ref a_p4), (5, .int x5_26), (6, .int x6_26), (7, .int (x7_26 + q14)), (8, .int (x8_26 ||| q18)), (11, .int x11_26), (12, .int q11)] → va_P D vwCl (wO cI cC cH a_p0 ad zp0_26 ++ [(a_p1, .inl (cI, 1, .inl zp1_26)), (a_p2, .inl (cI, 12, .inl zp2_26)), (a_p3, .inl (cI, 12, .inl zp3_26)), (a_p4, .inl (cI, 12, .inl zp4_26))]) H → va_D A (wO cI cC cH a_p0 ad zp0_26 ++ [(a_p1, .inl (cI, 1, .inl zp1_26)), (a_p2, .inl (cI, 12, .inl zp2_26)), (a_p3, .inl (cI, 12, .inl zp3_26)), (a_p4, .inl (cI, 12, .inl zp4_26))]) → va_S A s.heap H locs → W p l e (rmn 16 525 103 1236) s m args below meth c H locs znc_26 (12 * znc_26) Q (F0 m 129 ls [.int q23]) := by
              intro ls H locs hl hP hD hS
              refine lv_istore (lv' := [(9, .int q23), (0, .ref a_p0), (1, .ref a_p1), (2, .ref a_p2), (3, .ref a_p3), (4, .ref a_p4), (5, .int x5_26), (6, .int x6_26), (7, .int (x7_26 + q14)), (8, .int (x8_26 ||| q18)), (11, .int x11_26), (12, .int q11)]) hx hb dL_isSo_129 hl (by decide) rfl (fun ls hl => ?_)
              refine lv_aload_n hx hb dL_isSo_131 rfl (lv_at hl 1 rfl) ?_
              refine lv_iload hx hb dL_isSo_132 (lv_at hl 10 rfl) ?_
              refine lv_iconst (v := 0) hx hb dL_isSo_134 (by decide) ?_
              obtain ⟨g27, h⟩ := chk_s h
              have g27 := of_decide_eq_true g27
              obtain ⟨q28, hq29, h⟩ := bd h
              refine lx4_placeOf l D cI cC cH a_p0 ad N x11_26 0 zp0_26 q28 [] hq29 F hP hD hS hl ⟨Nat.le_of_ble_eq_true rfl, Nat.le_of_ble_eq_true rfl, (by show _ ≤ 103; omega), (by show _ ≤ 1236; omega)⟩ (Nat.le_of_ble_eq_true rfl) dL_isSo_135 (fun H locs hP hD hS => ?_)
              refine lv_aload_n hx hb dL_isSo_138 rfl (lv_at hl 3 rfl) ?_
              refine lv_iload hx hb dL_isSo_139 (lv_at hl 10 rfl) ?_
              obtain ⟨g30, h⟩ := chk_s h
              refine va_iald hx hb hK hP 40 0 rfl rfl (gi_in g30) dL_isSo_141 ?_
              obtain ⟨q32, hb57, h⟩ := bd h
              have J33 : ∀ (ls : Array Slot) (H : Heap) (locs : List Loc), lv_has ls 14 [(0, .ref a_p0), (1, .ref a_p1), (2, .ref a_p2), (3, .ref a_p3), (4, .ref a_p4), (5, .int x5_26), (6, .int x6_26), (7, .int (x7_26 + q14)), (8, .int (x8_26 ||| q18)), (9, .int q23), (11, .int x11_26)] → va_P D vwCl (wO cI cC cH a_p0 ad q32.1 ++ [(a_p1, .inl (cI, 1, .inl zp1_26)), (a_p2, .inl (cI, 12, .inl zp2_26)), (a_p3, .inl (cI, 12, .inl zp3_26)), (a_p4, .inl (cI, 12, .inl zp4_26))]) H → va_D A (wO cI cC cH a_p0 ad q32.1 ++ [(a_p1, .inl (cI, 1, .inl zp1_26)), (a_p2, .inl (cI, 12, .inl zp2_26)), (a_p3, .inl (cI, 12, .inl zp3_26)), (a_p4, .inl (cI, 12, .inl zp4_26))]) → va_S A s.heap H locs → W p l e (rmn 16 525 103 1236) s m args below meth c H locs znc_26 (12 * znc_26) Q (F0 m 222 ls [.int q32.2]) := by
                intro ls H locs hl hP hD hS
                refine lv_istore (lv' := [(10, .int q32.2), (0, .ref a_p0), (1, .ref a_p1), (2, .ref a_p2), (3, .ref a_p3), (4, .ref a_p4), (5, .int x5_26), (6, .int x6_26), (7, .int (x7_26 + q14)), (8, .int (x8_26 ||| q18)), (9, .int q23), (11, .int x11_26)]) hx hb dL_isSo_222 hl (by decide) rfl (fun ls hl => ?_)
                refine lv_iinc (v := x11_26 + 1) (lv' := [(11, .int (x11_26 + 1)), (10, .int q32.2), (0, .ref a_p0), (1, .ref a_p1), (2, .ref a_p2), (3, .ref a_p3), (4, .ref a_p4), (5, .int x5_26), (6, .int x6_26), (7, .int (x7_26 + q14)), (8, .int (x8_26 ||| q18)), (9, .int q23)]) hx hb dL_isSo_224 hl (k := 11) rfl rfl (by decide) rfl (fun ls hl => ?_)
                refine lv_goto (tgt := 26) hx hb dL_isSo_227 (by decide) ?_
                exact ih_26 (x7_26 + q14) (x8_26 ||| q18) q23 q32.2 (x11_26 + 1) q32.1 _ h J_26 _ _ _ (lv_sub hl [2, 3, 4, 5, 6, 7, 8, 9, 10, 11, 1, 0] rfl) hP hD hS
              clear h
              have h := hb57
              clear hb57
              refine lv_icmp_ne (tgt := 221) hx hb dL_isSo_142 (by decide) (fun c31 => ?_) (fun c31 => ?_)
              · have h := itF h c31
                refine lv_iconst (v := 0) hx hb dL_isSo_221 (by decide) ?_
                obtain rfl := Option.some.inj h
                exact J33 _ _ _ (lv_sub hl [1, 2, 3, 4, 5, 6, 7, 8, 9, 0, 10] rfl) hP hD hS
              · have h := itT h c31
                refine lv_aload_n hx hb dL_isSo_145 rfl (lv_at hl 1 rfl) ?_
                refine lv_iload hx hb dL_isSo_146 (lv_at hl 10 rfl) ?_
                refine lv_iconst (v := 1) hx hb dL_isSo_148 (by decide) ?_
                obtain ⟨g35, h⟩ := chk_s h
                have g35 := of_decide_eq_true g35
                obtain ⟨q36, hq37, h⟩ := bd h
                refine lx4_placeOf l D cI cC cH a_p0 ad N x11_26 1 q28.2 q36 [] hq37 F hP hD hS hl ⟨Nat.le_of_ble_eq_true rfl, Nat.le_of_ble_eq_true rfl, (by show _ ≤ 103; omega), (by show _ ≤ 1236; omega)⟩ (Nat.le_of_ble_eq_true rfl) dL_isSo_149 (fun H locs hP hD hS => ?_)
                refine lv_aload_n hx hb dL_isSo_152 rfl (lv_at hl 4 rfl) ?_
                refine lv_iload hx hb dL_isSo_153 (lv_at hl 10 rfl) ?_
                obtain ⟨g38, h⟩ := chk_s h
                refine va_iald hx hb hK hP 41 0 rfl rfl (gi_in g38) dL_isSo_155 ?_
                refine lv_icmp_ne (tgt := 221) hx hb dL_isSo_156 (by decide) (fun c39 => ?_) (fun c39 => ?_)
                · have h := itF h c39
                  refine lv_iconst (v := 0) hx hb dL_isSo_221 (by decide) ?_
                  obtain rfl := Option.some.inj h
                  exact J33 _ _ _ (lv_sub hl [1, 2, 3, 4, 5, 6, 7, 8, 9, 0, 10] rfl) hP hD hS
                · have h := itT h c39
                  refine lv_aload_n hx hb dL_isSo_159 rfl (lv_at hl 1 rfl) ?_
                  refine lv_iload hx hb dL_isSo_160 (lv_at hl 10 rfl) ?_
                  refine lv_iconst (v := 2) hx hb dL_isSo_162 (by decide) ?_
                  obtain ⟨g40, h⟩ := chk_s h
                  have g40 := of_decide_eq_true g40
                  obtain ⟨q41, hq42, h⟩ := bd h
                  refine lx4_placeOf l D cI cC cH a_p0 ad N x11_26 2 q36.2 q41 [] hq42 F hP hD hS hl ⟨Nat.le_of_ble_eq_true rfl, Nat.le_of_ble_eq_true rfl, (by show _ ≤ 103; omega), (by show _ ≤ 1236; omega)⟩ (Nat.le_of_ble_eq_true rfl) dL_isSo_163 (fun H locs hP hD hS => ?_)
                  refine lv_aload hx hb dL_isSo_166 (lv_at hl 5 rfl) ?_
                  refine lv_iload hx hb dL_isSo_168 (lv_at hl 10 rfl) ?_
                  obtain ⟨g43, h⟩ := chk_s h
                  refine va_iald hx hb hK hP 42 0 rfl rfl (gi_in g43) dL_isSo_170 ?_
                  refine lv_icmp_ne (tgt := 221) hx hb dL_isSo_171 (by decide) (fun c44 => ?_) (fun c44 => ?_)
                  · have h := itF h c44
                    refine lv_iconst (v := 0) hx hb dL_isSo_221 (by decide) ?_
                    obtain rfl := Option.some.inj h
                    exact J33 _ _ _ (lv_sub hl [1, 2, 3, 4, 5, 6, 7, 8, 9, 0, 10] rfl) hP hD hS
                  · have h := itT h c44
                    refine lv_aload_n hx hb dL_isSo_174 rfl (lv_at hl 1 rfl) ?_
                    refine lv_iload hx hb dL_isSo_175 (lv_at hl 10 rfl) ?_
                    refine lv_iconst (v := 3) hx hb dL_isSo_177 (by decide) ?_
                    obtain ⟨g45, h⟩ := chk_s h
                    have g45 := of_decide_eq_true g45
                    obtain ⟨q46, hq47, h⟩ := bd h
                    refine lx4_placeOf l D cI cC cH a_p0 ad N x11_26 3 q41.2 q46 [] hq47 F hP hD hS hl ⟨Nat.le_of_ble_eq_true rfl, Nat.le_of_ble_eq_true rfl, (by show _ ≤ 103; omega), (by show _ ≤ 1236; omega)⟩ (Nat.le_of_ble_eq_true rfl) dL_isSo_178 (fun H locs hP hD hS => ?_)
                    refine lv_iload hx hb dL_isSo_181 (lv_at hl 11 rfl) ?_
                    refine lv_icmp_ne (tgt := 221) hx hb dL_isSo_183 (by decide) (fun c48 => ?_) (fun c48 => ?_)
                    · have h := itF h c48
                      refine lv_iconst (v := 0) hx hb dL_isSo_221 (by decide) ?_
                      obtain rfl := Option.some.inj h
                      exact J33 _ _ _ (lv_sub hl [1, 2, 3, 4, 5, 6, 7, 8, 9, 0, 10] rfl) hP hD hS
                    · have h := itT h c48
                      refine lv_aload_n hx hb dL_isSo_186 rfl (lv_at hl 1 rfl) ?_
                      refine lv_iload hx hb dL_isSo_187 (lv_at hl 10 rfl) ?_
                      refine lv_iconst (v := 4) hx hb dL_isSo_189 (by decide) ?_
                      obtain ⟨g49, h⟩ := chk_s h
                      have g49 := of_decide_eq_true g49
                      obtain ⟨q50, hq51, h⟩ := bd h
                      refine lx4_placeOf l D cI cC cH a_p0 ad N x11_26 4 q46.2 q50 [] hq51 F hP hD hS hl ⟨Nat.le_of_ble_eq_true rfl, Nat.le_of_ble_eq_true rfl, (by show _ ≤ 103; omega), (by show _ ≤ 1236; omega)⟩ (Nat.le_of_ble_eq_true rfl) dL_isSo_190 (fun H locs hP hD hS => ?_)
                      refine lv_iconst (v := 1) hx hb dL_isSo_193 (by decide) ?_
                      refine lv_iload hx hb dL_isSo_194 (lv_at hl 7 rfl) ?_
                      refine lv_iload hx hb dL_isSo_196 (lv_at hl 10 rfl) ?_
                      refine lv_ishr hx hb dL_isSo_198 ?_
                      refine lv_iconst (v := 1) hx hb dL_isSo_199 (by decide) ?_
                      refine lv_iand hx hb dL_isSo_200 ?_
                      refine lv_isub hx hb dL_isSo_201 ?_
                      refine lv_icmp_ne (tgt := 221) hx hb dL_isSo_202 (by decide) (fun c52 => ?_) (fun c52 => ?_)
                      · have h := itF h c52
                        refine lv_iconst (v := 0) hx hb dL_isSo_221 (by decide) ?_
                        obtain rfl := Option.some.inj h
                        exact J33 _ _ _ (lv_sub hl [1, 2, 3, 4, 5, 6, 7, 8, 9, 0, 10] rfl) hP hD hS
                      · have h := itT h c52
                        refine lv_aload_n hx hb dL_isSo_205 rfl (lv_at hl 1 rfl) ?_
                        refine lv_iload hx hb dL_isSo_206 (lv_at hl 10 rfl) ?_
                        refine lv_bipush (v := 6) hx hb dL_isSo_208 (by decide) ?_
                        obtain ⟨g53, h⟩ := chk_s h
                        have g53 := of_decide_eq_true g53
                        obtain ⟨q54, hq55, h⟩ := bd h
                        refine lx4_placeOf l D cI cC cH a_p0 ad N x11_26 6 q50.2 q54 [] hq55 F hP hD hS hl ⟨Nat.le_of_ble_eq_true rfl, Nat.le_of_ble_eq_true rfl, (by show _ ≤ 103; omega), (by show _ ≤ 1236; omega)⟩ (Nat.le_of_ble_eq_true rfl) dL_isSo_210 (fun H locs hP hD hS => ?_)
                        refine lv_iconst (v := (-1)) hx hb dL_isSo_213 (by decide) ?_
                        refine lv_icmp_ne (tgt := 221) hx hb dL_isSo_214 (by decide) (fun c56 => ?_) (fun c56 => ?_)
                        · have h := itF h c56
                          refine lv_iconst (v := 0) hx hb dL_isSo_221 (by decide) ?_
                          obtain rfl := Option.some.inj h
                          exact J33 _ _ _ (lv_sub hl [1, 2, 3, 4, 5, 6, 7, 8, 9, 0, 10] rfl) hP hD hS
                        · have h := itT h c56
                          refine lv_iconst (v := 1) hx hb dL_isSo_217 (by decide) ?_
                          refine lv_goto (tgt := 222) hx hb dL_isSo_218 (by decide) ?_
                          obtain rfl := Option.some.inj h
                          exact J33 _ _ _ (lv_sub hl [1, 2, 3, 4, 5, 6, 7, 8, 9, 0, 10] rfl) hP hD hS
            clear h
            have h := hb58
            clear hb58
            refine lv_icmp_le (tgt := 127) hx hb dL_isSo_117 (by decide) (fun c22 => ?_) (fun c22 => ?_)
            · have h := itT h c22
              refine lv_iload hx hb dL_isSo_127 (lv_at hl 9 rfl) ?_
              obtain rfl := Option.some.inj h
              exact J24 _ _ _ (lv_sub hl [1, 2, 3, 4, 5, 6, 7, 8, 0, 10, 11] rfl) hP hD hS
            · have h := itF h c22
              refine lv_aload_n hx hb dL_isSo_120 rfl (lv_at hl 4 rfl) ?_
              refine lv_iload hx hb dL_isSo_121 (lv_at hl 10 rfl) ?_
              obtain ⟨g26, h⟩ := chk_s h
              refine va_iald hx hb hK hP 41 0 rfl rfl (gi_in g26) dL_isSo_123 ?_
              refine lv_goto (tgt := 129) hx hb dL_isSo_124 (by decide) ?_
              obtain rfl := Option.some.inj h
              exact J24 _ _ _ (lv_sub hl [1, 2, 3, 4, 5, 6, 7, 8, 0, 10, 11] rfl) hP hD hS
          clear h
          have h := hb59
          clear hb59
          refine lv_if_ne (tgt := 107) hx hb dL_isSo_97 (by decide) (fun c17 => ?_) (fun c17 => ?_)
          · have h := itF h c17
            refine lv_iconst (v := 0) hx hb dL_isSo_107 (by decide) ?_
            obtain rfl := Option.some.inj h
            exact J19 _ _ _ (lv_sub hl [1, 2, 3, 4, 5, 6, 7, 0, 9, 10, 11] rfl) hP hD hS
          · have h := itT h c17
            refine lv_iconst (v := 1) hx hb dL_isSo_100 (by decide) ?_
            refine lv_iload hx hb dL_isSo_101 (lv_at hl 10 rfl) ?_
            refine lv_ishl hx hb dL_isSo_103 ?_
            refine lv_goto (tgt := 108) hx hb dL_isSo_104 (by decide) ?_
            obtain rfl := Option.some.inj h
            exact J19 _ _ _ (lv_sub hl [1, 2, 3, 4, 5, 6, 7, 0, 9, 10, 11] rfl) hP hD hS
  obtain ⟨q62, hb122, h⟩ := bd h
  refine L_26 x5 q2 zp1 zp2 zp3 zp4 (0 + 1) N 0 0 (-4) 1 0 zp0 q62 hb122 ?_ _ _ _ (lv_sub hl [6, 7, 8, 9, 10, 11, 5, 4, 3, 2, 1, 0] rfl) hP hD hS
  intro ls H locs hl hP hD hS
  refine lv_iload hx hb dL_isSo_230 (lv_at hl 10 rfl) ?_
  refine lv_if_eq (tgt := 345) hx hb dL_isSo_232 (by decide) (fun c63 => ?_) (fun c63 => ?_)
  · have h := itT h c63
    refine lv_iconst (v := 0) hx hb dL_isSo_345 (by decide) ?_
    obtain ⟨g64, h⟩ := chk_s h
    have g64 := of_decide_eq_true g64
    obtain rfl := Option.some.inj h
    exact hret _ _ _ _ _ _ _ rfl (by omega) (by omega) rfl hP hD hS dL_isSo_346
  · have h := itF h c63
    refine lv_aload_n hx hb dL_isSo_235 rfl (lv_at hl 0 rfl) ?_
    refine lv_iconst (v := 0) hx hb dL_isSo_236 (by decide) ?_
    obtain ⟨g65, h⟩ := chk_s h
    have g65 := of_decide_eq_true g65
    obtain ⟨q66, hq67, h⟩ := bd h
    refine lx4_count l D cI cC cH a_p0 ad N 0 q62.2.2.2.2 q66 [] hq67 F hP hD hS hl ⟨Nat.le_of_ble_eq_true rfl, Nat.le_of_ble_eq_true rfl, (by show _ ≤ 103; omega), (by show _ ≤ 1236; omega)⟩ (Nat.le_of_ble_eq_true rfl) dL_isSo_237 (fun H locs hP hD hS => ?_)
    refine lv_aload_n hx hb dL_isSo_240 rfl (lv_at hl 1 rfl) ?_
    refine lv_iconst (v := 0) hx hb dL_isSo_241 (by decide) ?_
    obtain ⟨g68, h⟩ := chk_s h
    refine va_iald hx hb hK hP 39 0 rfl rfl (gi_in g68) dL_isSo_242 ?_
    refine lv_icmp_ne (tgt := 345) hx hb dL_isSo_243 (by decide) (fun c69 => ?_) (fun c69 => ?_)
    · have h := itF h c69
      refine lv_iconst (v := 0) hx hb dL_isSo_345 (by decide) ?_
      obtain ⟨g70, h⟩ := chk_s h
      have g70 := of_decide_eq_true g70
      obtain rfl := Option.some.inj h
      exact hret _ _ _ _ _ _ _ rfl (by omega) (by omega) rfl hP hD hS dL_isSo_346
    · have h := itT h c69
      refine lv_aload_n hx hb dL_isSo_246 rfl (lv_at hl 0 rfl) ?_
      refine lv_iconst (v := 1) hx hb dL_isSo_247 (by decide) ?_
      obtain ⟨g71, h⟩ := chk_s h
      have g71 := of_decide_eq_true g71
      obtain ⟨q72, hq73, h⟩ := bd h
      refine lx4_count l D cI cC cH a_p0 ad N 1 q66.2 q72 [] hq73 F hP hD hS hl ⟨Nat.le_of_ble_eq_true rfl, Nat.le_of_ble_eq_true rfl, (by show _ ≤ 103; omega), (by show _ ≤ 1236; omega)⟩ (Nat.le_of_ble_eq_true rfl) dL_isSo_248 (fun H locs hP hD hS => ?_)
      refine lv_iload hx hb dL_isSo_251 (lv_at hl 7 rfl) ?_
      refine lv_icmp_ne (tgt := 345) hx hb dL_isSo_253 (by decide) (fun c74 => ?_) (fun c74 => ?_)
      · have h := itF h c74
        refine lv_iconst (v := 0) hx hb dL_isSo_345 (by decide) ?_
        obtain ⟨g75, h⟩ := chk_s h
        have g75 := of_decide_eq_true g75
        obtain rfl := Option.some.inj h
        exact hret _ _ _ _ _ _ _ rfl (by omega) (by omega) rfl hP hD hS dL_isSo_346
      · have h := itT h c74
        refine lv_aload_n hx hb dL_isSo_256 rfl (lv_at hl 0 rfl) ?_
        refine lv_iconst (v := 2) hx hb dL_isSo_257 (by decide) ?_
        obtain ⟨g76, h⟩ := chk_s h
        have g76 := of_decide_eq_true g76
        obtain ⟨q77, hq78, h⟩ := bd h
        refine lx4_count l D cI cC cH a_p0 ad N 2 q72.2 q77 [] hq78 F hP hD hS hl ⟨Nat.le_of_ble_eq_true rfl, Nat.le_of_ble_eq_true rfl, (by show _ ≤ 103; omega), (by show _ ≤ 1236; omega)⟩ (Nat.le_of_ble_eq_true rfl) dL_isSo_258 (fun H locs hP hD hS => ?_)
        refine lv_iload hx hb dL_isSo_261 (lv_at hl 6 rfl) ?_
        refine lv_icmp_ne (tgt := 345) hx hb dL_isSo_263 (by decide) (fun c79 => ?_) (fun c79 => ?_)
        · have h := itF h c79
          refine lv_iconst (v := 0) hx hb dL_isSo_345 (by decide) ?_
          obtain ⟨g80, h⟩ := chk_s h
          have g80 := of_decide_eq_true g80
          obtain rfl := Option.some.inj h
          exact hret _ _ _ _ _ _ _ rfl (by omega) (by omega) rfl hP hD hS dL_isSo_346
        · have h := itT h c79
          refine lv_aload_n hx hb dL_isSo_266 rfl (lv_at hl 0 rfl) ?_
          refine lv_iconst (v := 3) hx hb dL_isSo_267 (by decide) ?_
          obtain ⟨g81, h⟩ := chk_s h
          have g81 := of_decide_eq_true g81
          obtain ⟨q82, hq83, h⟩ := bd h
          refine lx4_count l D cI cC cH a_p0 ad N 3 q77.2 q82 [] hq83 F hP hD hS hl ⟨Nat.le_of_ble_eq_true rfl, Nat.le_of_ble_eq_true rfl, (by show _ ≤ 103; omega), (by show _ ≤ 1236; omega)⟩ (Nat.le_of_ble_eq_true rfl) dL_isSo_268 (fun H locs hP hD hS => ?_)
          refine lv_aload_n hx hb dL_isSo_271 rfl (lv_at hl 1 rfl) ?_
          obtain ⟨g84, h⟩ := chk_s h
          have g84 := of_decide_eq_true g84
          obtain ⟨q85, hq86, h⟩ := bd h
          refine ksN (ws' := (wO cI cC cH a_p0 ad q82.2 ++ [(a_p1, .inl (cI, 1, .inl zp1)), (a_p2, .inl (cI, 12, .inl zp2)), (a_p3, .inl (cI, 12, .inl zp3)), (a_p4, .inl (cI, 12, .inl zp4))])) (wr := (wO cI cC cH a_p0 ad q82.2 ++ [(a_p2, .inl (cI, 12, .inl zp2)), (a_p3, .inl (cI, 12, .inl zp3)), (a_p4, .inl (cI, 12, .inl zp4))])) (rest := [.int q82.1]) (As := [.ref a_p1]) F (c_L_all l D cI cC cH a_p1 N zp1 q85 hq86) yfL_all ⟨wd2_105, wd2_106⟩ hP hD hS [39] [0, 1, 2, 3, 4, 5, 6, 7, 8, 9, 10, 11, 12, 13, 14, 15, 16, 17, 18, 19, 20, 21, 22, 23, 24, 25, 26, 27, 28, 29, 30, 31, 32, 33, 34, 35, 36, 37, 38, 40, 41, 42] [0, 1, 2, 3, 4, 5, 6, 7, 8, 9, 10, 11, 12, 13, 14, 15, 16, 17, 18, 19, 20, 21, 22, 23, 24, 25, 26, 27, 28, 29, 30, 31, 32, 33, 34, 35, 36, 37, 38, 42, 39, 40, 41] rfl rfl (by decide) (by decide) (by decide) rfl (by decide) ⟨Nat.le_of_ble_eq_true rfl, Nat.le_of_ble_eq_true rfl, (by show _ ≤ 103; omega), (by show _ ≤ 1236; omega)⟩ rfl hl rfl (Nat.le_of_ble_eq_true rfl) dL_isSo_272 (fun H locs hP hD hS => ?_)
          refine lv_iload hx hb dL_isSo_275 (lv_at hl 6 rfl) ?_
          refine lv_isub hx hb dL_isSo_277 ?_
          refine lv_icmp_ne (tgt := 345) hx hb dL_isSo_278 (by decide) (fun c87 => ?_) (fun c87 => ?_)
          · have h := itF h c87
            refine lv_iconst (v := 0) hx hb dL_isSo_345 (by decide) ?_
            obtain ⟨g88, h⟩ := chk_s h
            have g88 := of_decide_eq_true g88
            obtain rfl := Option.some.inj h
            exact hret _ _ _ _ _ _ _ rfl (by omega) (by omega) rfl hP hD hS dL_isSo_346
          · have h := itT h c87
            refine lv_aload_n hx hb dL_isSo_281 rfl (lv_at hl 0 rfl) ?_
            refine lv_iconst (v := 4) hx hb dL_isSo_282 (by decide) ?_
            obtain ⟨g89, h⟩ := chk_s h
            have g89 := of_decide_eq_true g89
            obtain ⟨q90, hq91, h⟩ := bd h
            refine lx4_count l D cI cC cH a_p0 ad N 4 q82.2 q90 [] hq91 F hP hD hS hl ⟨Nat.le_of_ble_eq_true rfl, Nat.le_of_ble_eq_true rfl, (by show _ ≤ 103; omega), (by show _ ≤ 1236; omega)⟩ (Nat.le_of_ble_eq_true rfl) dL_isSo_283 (fun H locs hP hD hS => ?_)
            refine lv_iload hx hb dL_isSo_286 (lv_at hl 8 rfl) ?_
            refine lv_icmp_ne (tgt := 345) hx hb dL_isSo_288 (by decide) (fun c92 => ?_) (fun c92 => ?_)
            · have h := itF h c92
              refine lv_iconst (v := 0) hx hb dL_isSo_345 (by decide) ?_
              obtain ⟨g93, h⟩ := chk_s h
              have g93 := of_decide_eq_true g93
              obtain rfl := Option.some.inj h
              exact hret _ _ _ _ _ _ _ rfl (by omega) (by omega) rfl hP hD hS dL_isSo_346
            · have h := itT h c92
              refine lv_aload_n hx hb dL_isSo_291 rfl (lv_at hl 0 rfl) ?_
              refine lv_iconst (v := 5) hx hb dL_isSo_292 (by decide) ?_
              obtain ⟨g94, h⟩ := chk_s h
              have g94 := of_decide_eq_true g94
              obtain ⟨q95, hq96, h⟩ := bd h
              refine lx4_count l D cI cC cH a_p0 ad N 5 q90.2 q95 [] hq96 F hP hD hS hl ⟨Nat.le_of_ble_eq_true rfl, Nat.le_of_ble_eq_true rfl, (by show _ ≤ 103; omega), (by show _ ≤ 1236; omega)⟩ (Nat.le_of_ble_eq_true rfl) dL_isSo_293 (fun H locs hP hD hS => ?_)
              refine lv_iload hx hb dL_isSo_296 (lv_at hl 9 rfl) ?_
              refine lv_icmp_ne (tgt := 345) hx hb dL_isSo_298 (by decide) (fun c97 => ?_) (fun c97 => ?_)
              · have h := itF h c97
                refine lv_iconst (v := 0) hx hb dL_isSo_345 (by decide) ?_
                obtain ⟨g98, h⟩ := chk_s h
                have g98 := of_decide_eq_true g98
                obtain rfl := Option.some.inj h
                exact hret _ _ _ _ _ _ _ rfl (by omega) (by omega) rfl hP hD hS dL_isSo_346
              · have h := itT h c97
                refine lv_aload_n hx hb dL_isSo_301 rfl (lv_at hl 0 rfl) ?_
                refine lv_bipush (v := 7) hx hb dL_isSo_302 (by decide) ?_
                obtain ⟨g99, h⟩ := chk_s h
                have g99 := of_decide_eq_true g99
                obtain ⟨q100, hq101, h⟩ := bd h
                refine lx4_count l D cI cC cH a_p0 ad N 7 q95.2 q100 [] hq101 F hP hD hS hl ⟨Nat.le_of_ble_eq_true rfl, Nat.le_of_ble_eq_true rfl, (by show _ ≤ 103; omega), (by show _ ≤ 1236; omega)⟩ (Nat.le_of_ble_eq_true rfl) dL_isSo_304 (fun H locs hP hD hS => ?_)
                refine lv_if_ne (tgt := 345) hx hb dL_isSo_307 (by decide) (fun c102 => ?_) (fun c102 => ?_)
                · have h := itF h c102
                  refine lv_iconst (v := 0) hx hb dL_isSo_345 (by decide) ?_
                  obtain ⟨g103, h⟩ := chk_s h
                  have g103 := of_decide_eq_true g103
                  obtain rfl := Option.some.inj h
                  exact hret _ _ _ _ _ _ _ rfl (by omega) (by omega) rfl hP hD hS dL_isSo_346
                · have h := itT h c102
                  refine lv_aload_n hx hb dL_isSo_310 rfl (lv_at hl 0 rfl) ?_
                  refine lv_aload_n hx hb dL_isSo_311 rfl (lv_at hl 1 rfl) ?_
                  refine lv_iconst (v := 0) hx hb dL_isSo_312 (by decide) ?_
                  obtain ⟨g104, h⟩ := chk_s h
                  refine va_iald hx hb hK hP 39 0 rfl rfl (gi_in g104) dL_isSo_313 ?_
                  refine lv_iconst (v := 0) hx hb dL_isSo_314 (by decide) ?_
                  obtain ⟨g105, h⟩ := chk_s h
                  have g105 := of_decide_eq_true g105
                  obtain ⟨q106, hq107, h⟩ := bd h
                  refine lx4_placeOf l D cI cC cH a_p0 ad N (zp1 (Int32.toNatClampNeg 0)) 0 q100.2 q106 [] hq107 F hP hD hS hl ⟨Nat.le_of_ble_eq_true rfl, Nat.le_of_ble_eq_true rfl, (by show _ ≤ 103; omega), (by show _ ≤ 1236; omega)⟩ (Nat.le_of_ble_eq_true rfl) dL_isSo_315 (fun H locs hP hD hS => ?_)
                  refine lv_iconst (v := (-1)) hx hb dL_isSo_318 (by decide) ?_
                  refine lv_icmp_ne (tgt := 345) hx hb dL_isSo_319 (by decide) (fun c108 => ?_) (fun c108 => ?_)
                  · have h := itF h c108
                    refine lv_iconst (v := 0) hx hb dL_isSo_345 (by decide) ?_
                    obtain ⟨g109, h⟩ := chk_s h
                    have g109 := of_decide_eq_true g109
                    obtain rfl := Option.some.inj h
                    exact hret _ _ _ _ _ _ _ rfl (by omega) (by omega) rfl hP hD hS dL_isSo_346
                  · have h := itT h c108
                    refine lv_iload hx hb dL_isSo_322 (lv_at hl 5 rfl) ?_
                    obtain ⟨q111, hb121, h⟩ := bd h
                    have J113 : ∀ t112, q111 = .inr t112 → ∀ (ls : Array Slot) (H : Heap) (locs : List Loc), lv_has ls 14 [] → va_P D vwCl (wO cI cC cH a_p0 ad t112.1 ++ [(a_p1, .inl (cI, 1, .inl zp1)), (a_p2, .inl (cI, 12, .inl zp2)), (a_p3, .inl (cI, 12, .inl zp3)), (a_p4, .inl (cI, 12, .inl zp4))]) H → va_D A (wO cI cC cH a_p0 ad t112.1 ++ [(a_p1, .inl (cI, 1, .inl zp1)), (a_p2, .inl (cI, 12, .inl zp2)), (a_p3, .inl (cI, 12, .inl zp3)), (a_p4, .inl (cI, 12, .inl zp4))]) → va_S A s.heap H locs → W p l e (rmn 16 525 103 1236) s m args below meth c H locs t112.2 (12 * t112.2) Q (F0 m 341 ls []) := by
                      intro t112 e9 ls H locs hl hP hD hS
                      rw [e9] at h
                      have h := sm_r h
                      refine lv_iconst (v := 1) hx hb dL_isSo_341 (by decide) ?_
                      refine lv_goto (tgt := 346) hx hb dL_isSo_342 (by decide) ?_
                      obtain ⟨g120, h⟩ := chk_s h
                      have g120 := of_decide_eq_true g120
                      obtain rfl := Option.some.inj h
                      exact hret _ _ _ _ _ _ _ rfl (by omega) (by omega) rfl hP hD hS dL_isSo_346
                    have hr114 : ∀ r9, q111 = .inl r9 → r9 = y := by
                      intro r9 e9
                      rw [e9] at h
                      exact Option.some.inj h
                    clear h
                    have h := hb121
                    clear hb121
                    refine lv_if_eq (tgt := 341) hx hb dL_isSo_324 (by decide) (fun c110 => ?_) (fun c110 => ?_)
                    · have h := itT h c110
                      obtain rfl := Option.some.inj h
                      exact J113 _ rfl _ _ _ (lv_sub hl [] rfl) hP hD hS
                    · have h := itF h c110
                      refine lv_aload_n hx hb dL_isSo_327 rfl (lv_at hl 0 rfl) ?_
                      refine lv_aload_n hx hb dL_isSo_328 rfl (lv_at hl 1 rfl) ?_
                      refine lv_aload_n hx hb dL_isSo_329 rfl (lv_at hl 2 rfl) ?_
                      refine lv_aload_n hx hb dL_isSo_330 rfl (lv_at hl 3 rfl) ?_
                      refine lv_aload hx hb dL_isSo_331 (lv_at hl 4 rfl) ?_
                      refine lv_iload hx hb dL_isSo_333 (lv_at hl 6 rfl) ?_
                      obtain ⟨g115, h⟩ := chk_s h
                      have g115 := of_decide_eq_true g115
                      obtain ⟨q116, hq117, h⟩ := bd h
                      refine ksN (ws' := (wO cI cC cH a_p0 ad q116.2 ++ [(a_p1, .inl (cI, 1, .inl zp1)), (a_p2, .inl (cI, 12, .inl zp2)), (a_p3, .inl (cI, 12, .inl zp3)), (a_p4, .inl (cI, 12, .inl zp4))])) (wr := []) (rest := []) (As := [.ref a_p0, .ref a_p1, .ref a_p2, .ref a_p3, .ref a_p4, .int q2]) F (c_L_areChoices l D cI cC cH a_p0 ad a_p1 a_p2 a_p3 a_p4 N q2 q106.2 zp1 zp2 zp3 zp4 q116 hq117) yfL_areChoices ⟨wd2_111, wd2_112⟩ hP hD hS [0, 1, 2, 3, 4, 5, 6, 7, 8, 9, 10, 11, 12, 13, 14, 15, 16, 17, 18, 19, 20, 21, 22, 23, 24, 25, 26, 27, 28, 29, 30, 31, 32, 33, 34, 35, 36, 37, 38, 39, 40, 41, 42] [] [0, 1, 2, 3, 4, 5, 6, 7, 8, 9, 10, 11, 12, 13, 14, 15, 16, 17, 18, 19, 20, 21, 22, 23, 24, 25, 26, 27, 28, 29, 30, 31, 32, 33, 34, 35, 36, 37, 38, 39, 40, 41, 42] rfl rfl (by decide) (by decide) (by decide) rfl (by decide) ⟨Nat.le_of_ble_eq_true rfl, Nat.le_of_ble_eq_true rfl, (by show _ ≤ 103; omega), (by show _ ≤ 1236; omega)⟩ rfl hl rfl (Nat.le_of_ble_eq_true rfl) dL_isSo_335 (fun H locs hP hD hS => ?_)
                      refine W.widen (k := (0 + 1) + 101) (n := 12 * ((0 + 1) + 101)) (by omega) (by omega) ?_
                      refine lv_if_eq (tgt := 345) hx hb dL_isSo_338 (by decide) (fun c118 => ?_) (fun c118 => ?_)
                      · have h := itT h c118
                        refine lv_iconst (v := 0) hx hb dL_isSo_345 (by decide) ?_
                        obtain ⟨g119, h⟩ := chk_s h
                        have g119 := of_decide_eq_true g119
                        obtain rfl := Option.some.inj h
                        obtain rfl := hr114 _ rfl
                        exact hret _ _ _ _ _ _ _ rfl (by omega) (by omega) rfl hP hD hS dL_isSo_346
                      · have h := itF h c118
                        obtain rfl := Option.some.inj h
                        exact J113 _ rfl _ _ _ (lv_sub hl [] rfl) hP hD hS
