def f_L_reads_L158 (N : Nat) (x8_158 : Int32) (x9_158 : Int32) : Nat → Int32 → Int32 → XS → (Nat → Int32) → Option (Int32 × XS × (Nat → Int32))
  | 0, _, _, _, _ => none
  | n_158 + 1, x7_158, x10_158, zp0_158, zp4_158 =>
    if x10_158 < 0 then (some (x7_158, zp0_158, zp4_158)) else (Option.bind (α := Int32 × XS × (Nat → Int32)) (if ((x9_158 >>> (x10_158 &&& 31)) &&& 1) = 1 then (Option.bind (α := XS × Int32) (if x7_158 = 0 then (some (zp0_158, 0)) else (chk (gi x8_158 12) (Option.bind (α := Int32) (if (zp4_158 (Int32.toNatClampNeg x8_158)) = 0 then (some (58)) else (some (44))) (fun q60 => Option.bind (x_type N q60 zp0_158) (fun q63 => if q63.1 ≤ 0 then (some (q63.2, 0)) else (Option.bind (x_type N (48 + x10_158) q63.2) (fun q66 => if q66.1 ≤ 0 then (some (q66.2, 0)) else (some (q66.2, 1))))))))) (fun q55 => chk (gi x8_158 12) (chk (gi x8_158 12) (some (q55.2, q55.1, upd zp4_158 (Int32.toNatClampNeg x8_158) ((zp4_158 (Int32.toNatClampNeg x8_158)) ||| ((1 : Int32) <<< (x10_158 &&& 31)))))))) else (some (x7_158, zp0_158, zp4_158))) (fun q51 => f_L_reads_L158 N x8_158 x9_158 n_158 q51.1 (x10_158 + (-1)) q51.2.1 q51.2.2))
def f_L_reads_L30 (N : Nat) (x5_30 : Int32) (x6_30 : Int32) : Nat → Int32 → Int32 → XS → (Nat → Int32) → (Nat → Int32) → (Nat → Int32) → Option (Int32 × XS × (Nat → Int32) × (Nat → Int32) × (Nat → Int32))
  | 0, _, _, _, _, _, _ => none
  | n_30 + 1, x7_30, x8_30, zp0_30, zp2_30, zp3_30, zp4_30 =>
    if x6_30 ≤ x8_30 then (some (x7_30, zp0_30, zp2_30, zp3_30, zp4_30)) else (chk (decide (¬ (2 + x8_30) = 0)) (chk (gi x8_30 12) (chk (decide (¬ (3 + (2 * x8_30)) = 0)) (chk (gi x8_30 12) (chk (decide (¬ (5 + (3 * x8_30)) = 0)) (chk (gi x8_30 12) (Option.bind (α := XS × Int32) (if x7_30 = 0 then (some (zp0_30, 0)) else (if x8_30 = 0 then (chk (gi x8_30 12) (Option.bind (α := Int32) (if ((upd zp2_30 (Int32.toNatClampNeg x8_30) ((x5_30 / (2 + x8_30)) - (x5_30 / (2 + x8_30)) / 2 * 2)) (Int32.toNatClampNeg x8_30)) = 1 then (some (111)) else (some (101))) (fun q22 => Option.bind (x_type N q22 zp0_30) (fun q25 => if q25.1 ≤ 0 then (some (q25.2, 0)) else (chk (gi x8_30 12) (Option.bind (x_type N (48 + ((upd zp3_30 (Int32.toNatClampNeg x8_30) ((x5_30 / (3 + (2 * x8_30))) - (x5_30 / (3 + (2 * x8_30))) / 6 * 6)) (Int32.toNatClampNeg x8_30))) q25.2) (fun q29 => if q29.1 ≤ 0 then (some (q29.2, 0)) else (some (q29.2, 1))))))))) else (Option.bind (x_type N 59 zp0_30) (fun q33 => if q33.1 ≤ 0 then (some (q33.2, 0)) else (chk (gi x8_30 12) (Option.bind (α := Int32) (if ((upd zp2_30 (Int32.toNatClampNeg x8_30) ((x5_30 / (2 + x8_30)) - (x5_30 / (2 + x8_30)) / 2 * 2)) (Int32.toNatClampNeg x8_30)) = 1 then (some (111)) else (some (101))) (fun q38 => Option.bind (x_type N q38 q33.2) (fun q41 => if q41.1 ≤ 0 then (some (q41.2, 0)) else (chk (gi x8_30 12) (Option.bind (x_type N (48 + ((upd zp3_30 (Int32.toNatClampNeg x8_30) ((x5_30 / (3 + (2 * x8_30))) - (x5_30 / (3 + (2 * x8_30))) / 6 * 6)) (Int32.toNatClampNeg x8_30))) q41.2) (fun q45 => if q45.1 ≤ 0 then (some (q45.2, 0)) else (some (q45.2, 1))))))))))))) (fun q16 => Option.bind (f_L_reads_L158 N x8_30 ((x5_30 / (5 + (3 * x8_30))) &&& (((1 : Int32) <<< (x6_30 &&& 31)) - 1)) N q16.2 (x6_30 - 1) q16.1 (upd zp4_30 (Int32.toNatClampNeg x8_30) 0)) (fun q75 => f_L_reads_L30 N x5_30 x6_30 n_30 q75.1 (x8_30 + 1) q75.2.1 (upd zp2_30 (Int32.toNatClampNeg x8_30) ((x5_30 / (2 + x8_30)) - (x5_30 / (2 + x8_30)) / 2 * 2)) (upd zp3_30 (Int32.toNatClampNeg x8_30) ((x5_30 / (3 + (2 * x8_30))) - (x5_30 / (3 + (2 * x8_30))) / 6 * 6)) q75.2.2)))))))))
def f_L_reads (N : Nat) (x5 : Int32) (zp0 : XS) (zp1 : Nat → Int32) (zp2 : Nat → Int32) (zp3 : Nat → Int32) (zp4 : Nat → Int32) : Option (Int32 × XS × (Nat → Int32) × (Nat → Int32) × (Nat → Int32) × (Nat → Int32)) :=
    Option.bind (x_clearText N zp0) (fun q1 => Option.bind (α := Int32) (if q1.1 < 0 then (some (0)) else (some (1))) (fun q4 => chk (gi 0 1) (Option.bind (f_L_reads_L30 N x5 (1 + (x5 - x5 / 5 * 5)) N q4 0 q1.2 zp2 zp3 zp4) (fun q79 => if q79.1 = 0 then (some (0, q79.2.1, upd zp1 (Int32.toNatClampNeg 0) (1 + (x5 - x5 / 5 * 5)), q79.2.2.1, q79.2.2.2.1, q79.2.2.2.2)) else (Option.bind (x_fault N 0 q79.2.1) (fun q81 => if q81.1 = (-4) then (Option.bind (x_read N q81.2) (fun q84 => if q84.1 = (1 + (x5 - x5 / 5 * 5)) then (Option.bind (x_clearText N q84.2) (fun q87 => if q87.1 ≤ 0 then (some (0, q87.2, upd zp1 (Int32.toNatClampNeg 0) (1 + (x5 - x5 / 5 * 5)), q79.2.2.1, q79.2.2.2.1, q79.2.2.2.2)) else (some (1, q87.2, upd zp1 (Int32.toNatClampNeg 0) (1 + (x5 - x5 / 5 * 5)), q79.2.2.1, q79.2.2.2.1, q79.2.2.2.2)))) else (some (0, q84.2, upd zp1 (Int32.toNatClampNeg 0) (1 + (x5 - x5 / 5 * 5)), q79.2.2.1, q79.2.2.2.1, q79.2.2.2.2)))) else (some (0, q81.2, upd zp1 (Int32.toNatClampNeg 0) (1 + (x5 - x5 / 5 * 5)), q79.2.2.1, q79.2.2.2.1, q79.2.2.2.2))))))))
set_option maxHeartbeats 4000000 in
set_option maxRecDepth 100000 in
theorem c_L_reads (l : Launch) (D : va_G) (cI cC cH : ClassId) (a_p0 : Nat) (ad : Nat → Nat) (a_p1 : Nat) (a_p2 : Nat) (a_p3 : Nat) (a_p4 : Nat) (N : Nat) (x5 : Int32) (zp0 : XS) (zp1 : Nat → Int32) (zp2 : Nat → Int32) (zp3 : Nat → Int32) (zp4 : Nat → Int32) (y : Int32 × XS × (Nat → Int32) × (Nat → Int32) × (Nat → Int32) × (Nat → Int32)) (h : f_L_reads N x5 zp0 zp1 zp2 zp3 zp4 = some y) : CTn l yL_reads cL_reads 11 .boolean 7 152 0 0 D (tyL cI cC cH) [.ref a_p0, .ref a_p1, .ref a_p2, .ref a_p3, .ref a_p4, .int x5] (wO cI cC cH a_p0 ad zp0 ++ [(a_p1, .inl (cI, 1, .inl zp1)), (a_p2, .inl (cI, 12, .inl zp2)), (a_p3, .inl (cI, 12, .inl zp3)), (a_p4, .inl (cI, 12, .inl zp4))]) (wO cI cC cH a_p0 ad y.2.1 ++ [(a_p1, .inl (cI, 1, .inl y.2.2.1)), (a_p2, .inl (cI, 12, .inl y.2.2.2.1)), (a_p3, .inl (cI, 12, .inl y.2.2.2.2.1)), (a_p4, .inl (cI, 12, .inl y.2.2.2.2.2))]) y.1 := by
  unfold f_L_reads at h
  refine ctN (by decide) (Nat.le_of_ble_eq_true rfl) ?_
  intro p e s m args below meth c A Q ls F hret hP hD hS hl
  have hx := F.1
  have hb := F.2.1
  have hown : s.vm.findClass RL = some m.cls := F.2.2.2.1
  have hts := F.2.2.2.2.1
  have hN := F.2.2.2.2.2.1
  have hK := F.2.2.2.2.2.2.1
  have hl : lv_has ls 11 [(0, .ref a_p0), (1, .ref a_p1), (2, .ref a_p2), (3, .ref a_p3), (4, .ref a_p4), (5, .int x5)] := hl
  have hA := F.2.2.2.2.2.2.2
  refine lv_iconst (v := 1) hx hb dL_reads_0 (by decide) ?_
  refine lv_iload hx hb dL_reads_1 (lv_at hl 5 rfl) ?_
  refine lv_iconst (v := 5) hx hb dL_reads_3 (by decide) ?_
  refine lv_irem hx hb dL_reads_4 (by decide) ?_
  refine lv_iadd hx hb dL_reads_5 ?_
  refine lv_istore (lv' := [(6, .int (1 + (x5 - x5 / 5 * 5))), (0, .ref a_p0), (1, .ref a_p1), (2, .ref a_p2), (3, .ref a_p3), (4, .ref a_p4), (5, .int x5)]) hx hb dL_reads_6 hl (by decide) rfl (fun ls hl => ?_)
  refine lv_aload_n hx hb dL_reads_8 rfl (lv_at hl 1 rfl) ?_
  obtain ⟨q1, hq2, h⟩ := bd h
  refine lx4_clearText l D cI cC cH a_p0 ad N  zp0 q1 [] hq2 F hP hD hS hl ⟨Nat.le_of_ble_eq_true rfl, Nat.le_of_ble_eq_true rfl, (Nat.le_of_ble_eq_true rfl), (Nat.le_of_ble_eq_true rfl)⟩ (Nat.le_of_ble_eq_true rfl) dL_reads_9 (fun H locs hP hD hS => ?_)
  obtain ⟨q4, hb91, h⟩ := bd h
  have J5 : ∀ (ls : Array Slot) (H : Heap) (locs : List Loc), lv_has ls 11 [(0, .ref a_p0), (1, .ref a_p1), (2, .ref a_p2), (3, .ref a_p3), (4, .ref a_p4), (5, .int x5), (6, .int (1 + (x5 - x5 / 5 * 5)))] → va_P D vwCl (wO cI cC cH a_p0 ad q1.2 ++ [(a_p1, .inl (cI, 1, .inl zp1)), (a_p2, .inl (cI, 12, .inl zp2)), (a_p3, .inl (cI, 12, .inl zp3)), (a_p4, .inl (cI, 12, .inl zp4))]) H → va_D A (wO cI cC cH a_p0 ad q1.2 ++ [(a_p1, .inl (cI, 1, .inl zp1)), (a_p2, .inl (cI, 12, .inl zp2)), (a_p3, .inl (cI, 12, .inl zp3)), (a_p4, .inl (cI, 12, .inl zp4))]) → va_S A s.heap H locs → W p l e (rmn 7 152 0 0) s m args below meth c H locs 0 0 Q (F0 m 20 ls [.int q4]) := by
    intro ls H locs hl hP hD hS
    refine lv_istore (lv' := [(7, .int q4), (0, .ref a_p0), (1, .ref a_p1), (2, .ref a_p2), (3, .ref a_p3), (4, .ref a_p4), (5, .int x5), (6, .int (1 + (x5 - x5 / 5 * 5)))]) hx hb dL_reads_20 hl (by decide) rfl (fun ls hl => ?_)
    refine lv_aload_n hx hb dL_reads_22 rfl (lv_at hl 2 rfl) ?_
    refine lv_iconst (v := 0) hx hb dL_reads_23 (by decide) ?_
    refine lv_iload hx hb dL_reads_24 (lv_at hl 7 rfl) ?_
    obtain ⟨g7, h⟩ := chk_s h
    refine va_iast hx hb hK hP hD hS 39 0 rfl rfl (gi_in g7) dL_reads_26 (fun H locs hP hD hS => ?_)
    have hP : va_P D vwCl (wO cI cC cH a_p0 ad q1.2 ++ [(a_p1, .inl (cI, 1, .inl (upd zp1 (Int32.toNatClampNeg 0) (1 + (x5 - x5 / 5 * 5))))), (a_p2, .inl (cI, 12, .inl zp2)), (a_p3, .inl (cI, 12, .inl zp3)), (a_p4, .inl (cI, 12, .inl zp4))]) H := hP
    have hD : va_D A (wO cI cC cH a_p0 ad q1.2 ++ [(a_p1, .inl (cI, 1, .inl (upd zp1 (Int32.toNatClampNeg 0) (1 + (x5 - x5 / 5 * 5))))), (a_p2, .inl (cI, 12, .inl zp2)), (a_p3, .inl (cI, 12, .inl zp3)), (a_p4, .inl (cI, 12, .inl zp4))]) := hD
    refine lv_iconst (v := 0) hx hb dL_reads_27 (by decide) ?_
    refine lv_istore (lv' := [(8, .int 0), (7, .int q4), (0, .ref a_p0), (1, .ref a_p1), (2, .ref a_p2), (3, .ref a_p3), (4, .ref a_p4), (5, .int x5), (6, .int (1 + (x5 - x5 / 5 * 5)))]) hx hb dL_reads_28 hl (by decide) rfl (fun ls hl => ?_)
    have L_30 : ∀ (x5_30 : Int32) (x6_30 : Int32) (zp1_30 : Nat → Int32), ∀ (n_30 : Nat) (x7_30 : Int32) (x8_30 : Int32) (zp0_30 : XS) (zp2_30 : Nat → Int32) (zp3_30 : Nat → Int32) (zp4_30 : Nat → Int32) (q78 : (Int32 × XS × (Nat → Int32) × (Nat → Int32) × (Nat → Int32))), f_L_reads_L30 N x5_30 x6_30 n_30 x7_30 x8_30 zp0_30 zp2_30 zp3_30 zp4_30 = some q78 → (∀ (ls : Array Slot) (H : Heap) (locs : List Loc), lv_has ls 11 [(0, .ref a_p0), (6, .int x6_30), (7, .int q78.1)] → va_P D vwCl (wO cI cC cH a_p0 ad q78.2.1 ++ [(a_p1, .inl (cI, 1, .inl zp1_30)), (a_p2, .inl (cI, 12, .inl q78.2.2.1)), (a_p3, .inl (cI, 12, .inl q78.2.2.2.1)), (a_p4, .inl (cI, 12, .inl q78.2.2.2.2))]) H → va_D A (wO cI cC cH a_p0 ad q78.2.1 ++ [(a_p1, .inl (cI, 1, .inl zp1_30)), (a_p2, .inl (cI, 12, .inl q78.2.2.1)), (a_p3, .inl (cI, 12, .inl q78.2.2.2.1)), (a_p4, .inl (cI, 12, .inl q78.2.2.2.2))]) → va_S A s.heap H locs → W p l e (rmn 7 152 0 0) s m args below meth c H locs 0 0 Q (F0 m 244 ls [])) → ∀ (ls : Array Slot) (H : Heap) (locs : List Loc), lv_has ls 11 [(0, .ref a_p0), (2, .ref a_p2), (3, .ref a_p3), (4, .ref a_p4), (5, .int x5_30), (6, .int x6_30), (7, .int x7_30), (8, .int x8_30)] → va_P D vwCl (wO cI cC cH a_p0 ad zp0_30 ++ [(a_p1, .inl (cI, 1, .inl zp1_30)), (a_p2, .inl (cI, 12, .inl zp2_30)), (a_p3, .inl (cI, 12, .inl zp3_30)), (a_p4, .inl (cI, 12, .inl zp4_30))]) H → va_D A (wO cI cC cH a_p0 ad zp0_30 ++ [(a_p1, .inl (cI, 1, .inl zp1_30)), (a_p2, .inl (cI, 12, .inl zp2_30)), (a_p3, .inl (cI, 12, .inl zp3_30)), (a_p4, .inl (cI, 12, .inl zp4_30))]) → va_S A s.heap H locs → W p l e (rmn 7 152 0 0) s m args below meth c H locs 0 0 Q (F0 m 30 ls []) := by
      intro x5_30 x6_30 zp1_30 n_30
      induction n_30 with
      | zero => intro x7_30 x8_30 zp0_30 zp2_30 zp3_30 zp4_30 q78 h; exact no_s h
      | succ n_30 ih_30 =>
        intro x7_30 x8_30 zp0_30 zp2_30 zp3_30 zp4_30 q78 h J_30 ls H locs hl hP hD hS
        rw [f_L_reads_L30] at h
        refine lv_iload hx hb dL_reads_30 (lv_at hl 7 rfl) ?_
        refine lv_iload hx hb dL_reads_32 (lv_at hl 5 rfl) ?_
        refine lv_icmp_ge (tgt := 244) hx hb dL_reads_34 (by decide) (fun c8 => ?_) (fun c8 => ?_)
        · have h := itT h c8
          obtain rfl := Option.some.inj h
          exact J_30 _ _ _ (lv_sub hl [0, 5, 6] rfl) hP hD hS
        · have h := itF h c8
          refine lv_aload_n hx hb dL_reads_37 rfl (lv_at hl 1 rfl) ?_
          refine lv_iload hx hb dL_reads_38 (lv_at hl 7 rfl) ?_
          refine lv_iload hx hb dL_reads_40 (lv_at hl 4 rfl) ?_
          refine lv_iconst (v := 2) hx hb dL_reads_42 (by decide) ?_
          refine lv_iload hx hb dL_reads_43 (lv_at hl 7 rfl) ?_
          refine lv_iadd hx hb dL_reads_45 ?_
          obtain ⟨g9, h⟩ := chk_s h
          refine lv_idiv hx hb dL_reads_46 (of_decide_eq_true g9) ?_
          refine lv_iconst (v := 2) hx hb dL_reads_47 (by decide) ?_
          refine lv_irem hx hb dL_reads_48 (by decide) ?_
          obtain ⟨g10, h⟩ := chk_s h
          refine va_iast hx hb hK hP hD hS 40 0 rfl rfl (gi_in g10) dL_reads_49 (fun H locs hP hD hS => ?_)
          have hP : va_P D vwCl (wO cI cC cH a_p0 ad zp0_30 ++ [(a_p1, .inl (cI, 1, .inl zp1_30)), (a_p2, .inl (cI, 12, .inl (upd zp2_30 (Int32.toNatClampNeg x8_30) ((x5_30 / (2 + x8_30)) - (x5_30 / (2 + x8_30)) / 2 * 2)))), (a_p3, .inl (cI, 12, .inl zp3_30)), (a_p4, .inl (cI, 12, .inl zp4_30))]) H := hP
          have hD : va_D A (wO cI cC cH a_p0 ad zp0_30 ++ [(a_p1, .inl (cI, 1, .inl zp1_30)), (a_p2, .inl (cI, 12, .inl (upd zp2_30 (Int32.toNatClampNeg x8_30) ((x5_30 / (2 + x8_30)) - (x5_30 / (2 + x8_30)) / 2 * 2)))), (a_p3, .inl (cI, 12, .inl zp3_30)), (a_p4, .inl (cI, 12, .inl zp4_30))]) := hD
          refine lv_aload_n hx hb dL_reads_50 rfl (lv_at hl 2 rfl) ?_
          refine lv_iload hx hb dL_reads_51 (lv_at hl 7 rfl) ?_
          refine lv_iload hx hb dL_reads_53 (lv_at hl 4 rfl) ?_
          refine lv_iconst (v := 3) hx hb dL_reads_55 (by decide) ?_
          refine lv_iconst (v := 2) hx hb dL_reads_56 (by decide) ?_
          refine lv_iload hx hb dL_reads_57 (lv_at hl 7 rfl) ?_
          refine lv_imul hx hb dL_reads_59 ?_
          refine lv_iadd hx hb dL_reads_60 ?_
          obtain ⟨g11, h⟩ := chk_s h
          refine lv_idiv hx hb dL_reads_61 (of_decide_eq_true g11) ?_
          refine lv_bipush (v := 6) hx hb dL_reads_62 (by decide) ?_
          refine lv_irem hx hb dL_reads_64 (by decide) ?_
          obtain ⟨g12, h⟩ := chk_s h
          refine va_iast hx hb hK hP hD hS 41 0 rfl rfl (gi_in g12) dL_reads_65 (fun H locs hP hD hS => ?_)
          have hP : va_P D vwCl (wO cI cC cH a_p0 ad zp0_30 ++ [(a_p1, .inl (cI, 1, .inl zp1_30)), (a_p2, .inl (cI, 12, .inl (upd zp2_30 (Int32.toNatClampNeg x8_30) ((x5_30 / (2 + x8_30)) - (x5_30 / (2 + x8_30)) / 2 * 2)))), (a_p3, .inl (cI, 12, .inl (upd zp3_30 (Int32.toNatClampNeg x8_30) ((x5_30 / (3 + (2 * x8_30))) - (x5_30 / (3 + (2 * x8_30))) / 6 * 6)))), (a_p4, .inl (cI, 12, .inl zp4_30))]) H := hP
          have hD : va_D A (wO cI cC cH a_p0 ad zp0_30 ++ [(a_p1, .inl (cI, 1, .inl zp1_30)), (a_p2, .inl (cI, 12, .inl (upd zp2_30 (Int32.toNatClampNeg x8_30) ((x5_30 / (2 + x8_30)) - (x5_30 / (2 + x8_30)) / 2 * 2)))), (a_p3, .inl (cI, 12, .inl (upd zp3_30 (Int32.toNatClampNeg x8_30) ((x5_30 / (3 + (2 * x8_30))) - (x5_30 / (3 + (2 * x8_30))) / 6 * 6)))), (a_p4, .inl (cI, 12, .inl zp4_30))]) := hD
          refine lv_iload hx hb dL_reads_66 (lv_at hl 4 rfl) ?_
          refine lv_iconst (v := 5) hx hb dL_reads_68 (by decide) ?_
          refine lv_iconst (v := 3) hx hb dL_reads_69 (by decide) ?_
          refine lv_iload hx hb dL_reads_70 (lv_at hl 7 rfl) ?_
          refine lv_imul hx hb dL_reads_72 ?_
          refine lv_iadd hx hb dL_reads_73 ?_
          obtain ⟨g13, h⟩ := chk_s h
          refine lv_idiv hx hb dL_reads_74 (of_decide_eq_true g13) ?_
          refine lv_iconst (v := 1) hx hb dL_reads_75 (by decide) ?_
          refine lv_iload hx hb dL_reads_76 (lv_at hl 5 rfl) ?_
          refine lv_ishl hx hb dL_reads_78 ?_
          refine lv_iconst (v := 1) hx hb dL_reads_79 (by decide) ?_
          refine lv_isub hx hb dL_reads_80 ?_
          refine lv_iand hx hb dL_reads_81 ?_
          refine lv_istore (lv' := [(9, .int ((x5_30 / (5 + (3 * x8_30))) &&& (((1 : Int32) <<< (x6_30 &&& 31)) - 1))), (0, .ref a_p0), (2, .ref a_p2), (3, .ref a_p3), (4, .ref a_p4), (5, .int x5_30), (6, .int x6_30), (7, .int x7_30), (8, .int x8_30)]) hx hb dL_reads_82 hl (by decide) rfl (fun ls hl => ?_)
          refine lv_aload hx hb dL_reads_84 (lv_at hl 4 rfl) ?_
          refine lv_iload hx hb dL_reads_86 (lv_at hl 8 rfl) ?_
          refine lv_iconst (v := 0) hx hb dL_reads_88 (by decide) ?_
          obtain ⟨g14, h⟩ := chk_s h
          refine va_iast hx hb hK hP hD hS 42 0 rfl rfl (gi_in g14) dL_reads_89 (fun H locs hP hD hS => ?_)
          have hP : va_P D vwCl (wO cI cC cH a_p0 ad zp0_30 ++ [(a_p1, .inl (cI, 1, .inl zp1_30)), (a_p2, .inl (cI, 12, .inl (upd zp2_30 (Int32.toNatClampNeg x8_30) ((x5_30 / (2 + x8_30)) - (x5_30 / (2 + x8_30)) / 2 * 2)))), (a_p3, .inl (cI, 12, .inl (upd zp3_30 (Int32.toNatClampNeg x8_30) ((x5_30 / (3 + (2 * x8_30))) - (x5_30 / (3 + (2 * x8_30))) / 6 * 6)))), (a_p4, .inl (cI, 12, .inl (upd zp4_30 (Int32.toNatClampNeg x8_30) 0)))]) H := hP
          have hD : va_D A (wO cI cC cH a_p0 ad zp0_30 ++ [(a_p1, .inl (cI, 1, .inl zp1_30)), (a_p2, .inl (cI, 12, .inl (upd zp2_30 (Int32.toNatClampNeg x8_30) ((x5_30 / (2 + x8_30)) - (x5_30 / (2 + x8_30)) / 2 * 2)))), (a_p3, .inl (cI, 12, .inl (upd zp3_30 (Int32.toNatClampNeg x8_30) ((x5_30 / (3 + (2 * x8_30))) - (x5_30 / (3 + (2 * x8_30))) / 6 * 6)))), (a_p4, .inl (cI, 12, .inl (upd zp4_30 (Int32.toNatClampNeg x8_30) 0)))]) := hD
          refine lv_iload hx hb dL_reads_90 (lv_at hl 7 rfl) ?_
          obtain ⟨q16, hb77, h⟩ := bd h
          have J17 : ∀ (ls : Array Slot) (H : Heap) (locs : List Loc), lv_has ls 11 [(0, .ref a_p0), (2, .ref a_p2), (3, .ref a_p3), (4, .ref a_p4), (5, .int x5_30), (6, .int x6_30), (8, .int x8_30), (9, .int ((x5_30 / (5 + (3 * x8_30))) &&& (((1 : Int32) <<< (x6_30 &&& 31)) - 1)))] → va_P D vwCl (wO cI cC cH a_p0 ad q16.1 ++ [(a_p1, .inl (cI, 1, .inl zp1_30)), (a_p2, .inl (cI, 12, .inl (upd zp2_30 (Int32.toNatClampNeg x8_30) ((x5_30 / (2 + x8_30)) - (x5_30 / (2 + x8_30)) / 2 * 2)))), (a_p3, .inl (cI, 12, .inl (upd zp3_30 (Int32.toNatClampNeg x8_30) ((x5_30 / (3 + (2 * x8_30))) - (x5_30 / (3 + (2 * x8_30))) / 6 * 6)))), (a_p4, .inl (cI, 12, .inl (upd zp4_30 (Int32.toNatClampNeg x8_30) 0)))]) H → va_D A (wO cI cC cH a_p0 ad q16.1 ++ [(a_p1, .inl (cI, 1, .inl zp1_30)), (a_p2, .inl (cI, 12, .inl (upd zp2_30 (Int32.toNatClampNeg x8_30) ((x5_30 / (2 + x8_30)) - (x5_30 / (2 + x8_30)) / 2 * 2)))), (a_p3, .inl (cI, 12, .inl (upd zp3_30 (Int32.toNatClampNeg x8_30) ((x5_30 / (3 + (2 * x8_30))) - (x5_30 / (3 + (2 * x8_30))) / 6 * 6)))), (a_p4, .inl (cI, 12, .inl (upd zp4_30 (Int32.toNatClampNeg x8_30) 0)))]) → va_S A s.heap H locs → W p l e (rmn 7 152 0 0) s m args below meth c H locs 0 0 Q (F0 m 150 ls [.int q16.2]) := by
            intro ls H locs hl hP hD hS
            refine lv_istore (lv' := [(7, .int q16.2), (0, .ref a_p0), (2, .ref a_p2), (3, .ref a_p3), (4, .ref a_p4), (5, .int x5_30), (6, .int x6_30), (8, .int x8_30), (9, .int ((x5_30 / (5 + (3 * x8_30))) &&& (((1 : Int32) <<< (x6_30 &&& 31)) - 1)))]) hx hb dL_reads_150 hl (by decide) rfl (fun ls hl => ?_)
            refine lv_iload hx hb dL_reads_152 (lv_at hl 6 rfl) ?_
            refine lv_iconst (v := 1) hx hb dL_reads_154 (by decide) ?_
            refine lv_isub hx hb dL_reads_155 ?_
            refine lv_istore (lv' := [(10, .int (x6_30 - 1)), (7, .int q16.2), (0, .ref a_p0), (2, .ref a_p2), (3, .ref a_p3), (4, .ref a_p4), (5, .int x5_30), (6, .int x6_30), (8, .int x8_30), (9, .int ((x5_30 / (5 + (3 * x8_30))) &&& (((1 : Int32) <<< (x6_30 &&& 31)) - 1)))]) hx hb dL_reads_156 hl (by decide) rfl (fun ls hl => ?_)
            have L_158 : ∀ (x5_158 : Int32) (x6_158 : Int32) (x8_158 : Int32) (x9_158 : Int32) (zp1_158 : Nat → Int32) (zp2_158 : Nat → Int32) (zp3_158 : Nat → Int32), ∀ (n_158 : Nat) (x7_158 : Int32) (x10_158 : Int32) (zp0_158 : XS) (zp4_158 : Nat → Int32) (q74 : (Int32 × XS × (Nat → Int32))), f_L_reads_L158 N x8_158 x9_158 n_158 x7_158 x10_158 zp0_158 zp4_158 = some q74 → (∀ (ls : Array Slot) (H : Heap) (locs : List Loc), lv_has ls 11 [(0, .ref a_p0), (2, .ref a_p2), (3, .ref a_p3), (4, .ref a_p4), (5, .int x5_158), (6, .int x6_158), (7, .int q74.1), (8, .int x8_158)] → va_P D vwCl (wO cI cC cH a_p0 ad q74.2.1 ++ [(a_p1, .inl (cI, 1, .inl zp1_158)), (a_p2, .inl (cI, 12, .inl zp2_158)), (a_p3, .inl (cI, 12, .inl zp3_158)), (a_p4, .inl (cI, 12, .inl q74.2.2))]) H → va_D A (wO cI cC cH a_p0 ad q74.2.1 ++ [(a_p1, .inl (cI, 1, .inl zp1_158)), (a_p2, .inl (cI, 12, .inl zp2_158)), (a_p3, .inl (cI, 12, .inl zp3_158)), (a_p4, .inl (cI, 12, .inl q74.2.2))]) → va_S A s.heap H locs → W p l e (rmn 7 152 0 0) s m args below meth c H locs 0 0 Q (F0 m 238 ls [])) → ∀ (ls : Array Slot) (H : Heap) (locs : List Loc), lv_has ls 11 [(0, .ref a_p0), (2, .ref a_p2), (3, .ref a_p3), (4, .ref a_p4), (5, .int x5_158), (6, .int x6_158), (7, .int x7_158), (8, .int x8_158), (9, .int x9_158), (10, .int x10_158)] → va_P D vwCl (wO cI cC cH a_p0 ad zp0_158 ++ [(a_p1, .inl (cI, 1, .inl zp1_158)), (a_p2, .inl (cI, 12, .inl zp2_158)), (a_p3, .inl (cI, 12, .inl zp3_158)), (a_p4, .inl (cI, 12, .inl zp4_158))]) H → va_D A (wO cI cC cH a_p0 ad zp0_158 ++ [(a_p1, .inl (cI, 1, .inl zp1_158)), (a_p2, .inl (cI, 12, .inl zp2_158)), (a_p3, .inl (cI, 12, .inl zp3_158)), (a_p4, .inl (cI, 12, .inl zp4_158))]) → va_S A s.heap H locs → W p l e (rmn 7 152 0 0) s m args below meth c H locs 0 0 Q (F0 m 158 ls []) := by
              intro x5_158 x6_158 x8_158 x9_158 zp1_158 zp2_158 zp3_158 n_158
              induction n_158 with
              | zero => intro x7_158 x10_158 zp0_158 zp4_158 q74 h; exact no_s h
              | succ n_158 ih_158 =>
                intro x7_158 x10_158 zp0_158 zp4_158 q74 h J_158 ls H locs hl hP hD hS
                rw [f_L_reads_L158] at h
                refine lv_iload hx hb dL_reads_158 (lv_at hl 9 rfl) ?_
                refine lv_if_lt (tgt := 238) hx hb dL_reads_160 (by decide) (fun c49 => ?_) (fun c49 => ?_)
                · have h := itT h c49
                  obtain rfl := Option.some.inj h
                  exact J_158 _ _ _ (lv_sub hl [0, 1, 2, 3, 4, 5, 6, 7] rfl) hP hD hS
                · have h := itF h c49
                  refine lv_iload hx hb dL_reads_163 (lv_at hl 8 rfl) ?_
                  refine lv_iload hx hb dL_reads_165 (lv_at hl 9 rfl) ?_
                  refine lv_ishr hx hb dL_reads_167 ?_
                  refine lv_iconst (v := 1) hx hb dL_reads_168 (by decide) ?_
                  refine lv_iand hx hb dL_reads_169 ?_
                  refine lv_iconst (v := 1) hx hb dL_reads_170 (by decide) ?_
                  obtain ⟨q51, hb73, h⟩ := bd h
                  have J52 : ∀ (ls : Array Slot) (H : Heap) (locs : List Loc), lv_has ls 11 [(0, .ref a_p0), (2, .ref a_p2), (3, .ref a_p3), (4, .ref a_p4), (5, .int x5_158), (6, .int x6_158), (7, .int q51.1), (8, .int x8_158), (9, .int x9_158), (10, .int x10_158)] → va_P D vwCl (wO cI cC cH a_p0 ad q51.2.1 ++ [(a_p1, .inl (cI, 1, .inl zp1_158)), (a_p2, .inl (cI, 12, .inl zp2_158)), (a_p3, .inl (cI, 12, .inl zp3_158)), (a_p4, .inl (cI, 12, .inl q51.2.2))]) H → va_D A (wO cI cC cH a_p0 ad q51.2.1 ++ [(a_p1, .inl (cI, 1, .inl zp1_158)), (a_p2, .inl (cI, 12, .inl zp2_158)), (a_p3, .inl (cI, 12, .inl zp3_158)), (a_p4, .inl (cI, 12, .inl q51.2.2))]) → va_S A s.heap H locs → W p l e (rmn 7 152 0 0) s m args below meth c H locs 0 0 Q (F0 m 232 ls []) := by
                    intro ls H locs hl hP hD hS
                    refine lv_iinc (v := x10_158 + (-1)) (lv' := [(10, .int (x10_158 + (-1))), (0, .ref a_p0), (2, .ref a_p2), (3, .ref a_p3), (4, .ref a_p4), (5, .int x5_158), (6, .int x6_158), (7, .int q51.1), (8, .int x8_158), (9, .int x9_158)]) hx hb dL_reads_232 hl (k := 9) rfl rfl (by decide) rfl (fun ls hl => ?_)
                    refine lv_goto (tgt := 158) hx hb dL_reads_235 (by decide) ?_
                    exact ih_158 q51.1 (x10_158 + (-1)) q51.2.1 q51.2.2 _ h J_158 _ _ _ (lv_sub hl [1, 2, 3, 4, 5, 6, 7, 8, 9, 0] rfl) hP hD hS
                  clear h
                  have h := hb73
                  clear hb73
                  refine lv_icmp_ne (tgt := 232) hx hb dL_reads_171 (by decide) (fun c50 => ?_) (fun c50 => ?_)
                  · have h := itF h c50
                    obtain rfl := Option.some.inj h
                    exact J52 _ _ _ (lv_sub hl [0, 1, 2, 3, 4, 5, 6, 7, 8, 9] rfl) hP hD hS
                  · have h := itT h c50
                    refine lv_iload hx hb dL_reads_174 (lv_at hl 6 rfl) ?_
                    obtain ⟨q55, hb72, h⟩ := bd h
                    have J56 : ∀ (ls : Array Slot) (H : Heap) (locs : List Loc), lv_has ls 11 [(0, .ref a_p0), (2, .ref a_p2), (3, .ref a_p3), (4, .ref a_p4), (5, .int x5_158), (6, .int x6_158), (8, .int x8_158), (9, .int x9_158), (10, .int x10_158)] → va_P D vwCl (wO cI cC cH a_p0 ad q55.1 ++ [(a_p1, .inl (cI, 1, .inl zp1_158)), (a_p2, .inl (cI, 12, .inl zp2_158)), (a_p3, .inl (cI, 12, .inl zp3_158)), (a_p4, .inl (cI, 12, .inl zp4_158))]) H → va_D A (wO cI cC cH a_p0 ad q55.1 ++ [(a_p1, .inl (cI, 1, .inl zp1_158)), (a_p2, .inl (cI, 12, .inl zp2_158)), (a_p3, .inl (cI, 12, .inl zp3_158)), (a_p4, .inl (cI, 12, .inl zp4_158))]) → va_S A s.heap H locs → W p l e (rmn 7 152 0 0) s m args below meth c H locs 0 0 Q (F0 m 218 ls [.int q55.2]) := by
                      intro ls H locs hl hP hD hS
                      refine lv_istore (lv' := [(7, .int q55.2), (0, .ref a_p0), (2, .ref a_p2), (3, .ref a_p3), (4, .ref a_p4), (5, .int x5_158), (6, .int x6_158), (8, .int x8_158), (9, .int x9_158), (10, .int x10_158)]) hx hb dL_reads_218 hl (by decide) rfl (fun ls hl => ?_)
                      refine lv_aload hx hb dL_reads_220 (lv_at hl 4 rfl) ?_
                      refine lv_iload hx hb dL_reads_222 (lv_at hl 7 rfl) ?_
                      refine lv_dup2_11 hx hb dL_reads_224 rfl rfl ?_
                      obtain ⟨g70, h⟩ := chk_s h
                      refine va_iald hx hb hK hP 42 0 rfl rfl (gi_in g70) dL_reads_225 ?_
                      refine lv_iconst (v := 1) hx hb dL_reads_226 (by decide) ?_
                      refine lv_iload hx hb dL_reads_227 (lv_at hl 9 rfl) ?_
                      refine lv_ishl hx hb dL_reads_229 ?_
                      refine lv_ior hx hb dL_reads_230 ?_
                      obtain ⟨g71, h⟩ := chk_s h
                      refine va_iast hx hb hK hP hD hS 42 0 rfl rfl (gi_in g71) dL_reads_231 (fun H locs hP hD hS => ?_)
                      have hP : va_P D vwCl (wO cI cC cH a_p0 ad q55.1 ++ [(a_p1, .inl (cI, 1, .inl zp1_158)), (a_p2, .inl (cI, 12, .inl zp2_158)), (a_p3, .inl (cI, 12, .inl zp3_158)), (a_p4, .inl (cI, 12, .inl (upd zp4_158 (Int32.toNatClampNeg x8_158) ((zp4_158 (Int32.toNatClampNeg x8_158)) ||| ((1 : Int32) <<< (x10_158 &&& 31))))))]) H := hP
                      have hD : va_D A (wO cI cC cH a_p0 ad q55.1 ++ [(a_p1, .inl (cI, 1, .inl zp1_158)), (a_p2, .inl (cI, 12, .inl zp2_158)), (a_p3, .inl (cI, 12, .inl zp3_158)), (a_p4, .inl (cI, 12, .inl (upd zp4_158 (Int32.toNatClampNeg x8_158) ((zp4_158 (Int32.toNatClampNeg x8_158)) ||| ((1 : Int32) <<< (x10_158 &&& 31))))))]) := hD
                      obtain rfl := Option.some.inj h
                      exact J52 _ _ _ (lv_sub hl [1, 2, 3, 4, 5, 6, 0, 7, 8, 9] rfl) hP hD hS
                    clear h
                    have h := hb72
                    clear hb72
                    refine lv_if_eq (tgt := 217) hx hb dL_reads_176 (by decide) (fun c54 => ?_) (fun c54 => ?_)
                    · have h := itT h c54
                      refine lv_iconst (v := 0) hx hb dL_reads_217 (by decide) ?_
                      obtain rfl := Option.some.inj h
                      exact J56 _ _ _ (lv_sub hl [0, 1, 2, 3, 4, 5, 7, 8, 9] rfl) hP hD hS
                    · have h := itF h c54
                      refine lv_aload_n hx hb dL_reads_179 rfl (lv_at hl 0 rfl) ?_
                      refine lv_aload hx hb dL_reads_180 (lv_at hl 3 rfl) ?_
                      refine lv_iload hx hb dL_reads_182 (lv_at hl 7 rfl) ?_
                      obtain ⟨g58, h⟩ := chk_s h
                      refine va_iald hx hb hK hP 42 0 rfl rfl (gi_in g58) dL_reads_184 ?_
                      obtain ⟨q60, hb69, h⟩ := bd h
                      have J61 : ∀ (ls : Array Slot) (H : Heap) (locs : List Loc), lv_has ls 11 [(0, .ref a_p0), (2, .ref a_p2), (3, .ref a_p3), (4, .ref a_p4), (5, .int x5_158), (6, .int x6_158), (8, .int x8_158), (9, .int x9_158), (10, .int x10_158)] → va_P D vwCl (wO cI cC cH a_p0 ad zp0_158 ++ [(a_p1, .inl (cI, 1, .inl zp1_158)), (a_p2, .inl (cI, 12, .inl zp2_158)), (a_p3, .inl (cI, 12, .inl zp3_158)), (a_p4, .inl (cI, 12, .inl zp4_158))]) H → va_D A (wO cI cC cH a_p0 ad zp0_158 ++ [(a_p1, .inl (cI, 1, .inl zp1_158)), (a_p2, .inl (cI, 12, .inl zp2_158)), (a_p3, .inl (cI, 12, .inl zp3_158)), (a_p4, .inl (cI, 12, .inl zp4_158))]) → va_S A s.heap H locs → W p l e (rmn 7 152 0 0) s m args below meth c H locs 0 0 Q (F0 m 195 ls [.int q60, .ref a_p0]) := by
                        intro ls H locs hl hP hD hS
                        obtain ⟨q63, hq64, h⟩ := bd h
                        refine lx4_type l D cI cC cH a_p0 ad N q60 zp0_158 q63 [] hq64 F hP hD hS hl ⟨Nat.le_of_ble_eq_true rfl, Nat.le_of_ble_eq_true rfl, (Nat.le_of_ble_eq_true rfl), (Nat.le_of_ble_eq_true rfl)⟩ (Nat.le_of_ble_eq_true rfl) dL_reads_195 (fun H locs hP hD hS => ?_)
                        refine lv_if_le (tgt := 217) hx hb dL_reads_198 (by decide) (fun c65 => ?_) (fun c65 => ?_)
                        · have h := itT h c65
                          refine lv_iconst (v := 0) hx hb dL_reads_217 (by decide) ?_
                          obtain rfl := Option.some.inj h
                          exact J56 _ _ _ (lv_sub hl [0, 1, 2, 3, 4, 5, 6, 7, 8] rfl) hP hD hS
                        · have h := itF h c65
                          refine lv_aload_n hx hb dL_reads_201 rfl (lv_at hl 0 rfl) ?_
                          refine lv_bipush (v := 48) hx hb dL_reads_202 (by decide) ?_
                          refine lv_iload hx hb dL_reads_204 (lv_at hl 8 rfl) ?_
                          refine lv_iadd hx hb dL_reads_206 ?_
                          obtain ⟨q66, hq67, h⟩ := bd h
                          refine lx4_type l D cI cC cH a_p0 ad N (48 + x10_158) q63.2 q66 [] hq67 F hP hD hS hl ⟨Nat.le_of_ble_eq_true rfl, Nat.le_of_ble_eq_true rfl, (Nat.le_of_ble_eq_true rfl), (Nat.le_of_ble_eq_true rfl)⟩ (Nat.le_of_ble_eq_true rfl) dL_reads_207 (fun H locs hP hD hS => ?_)
                          refine lv_if_le (tgt := 217) hx hb dL_reads_210 (by decide) (fun c68 => ?_) (fun c68 => ?_)
                          · have h := itT h c68
                            refine lv_iconst (v := 0) hx hb dL_reads_217 (by decide) ?_
                            obtain rfl := Option.some.inj h
                            exact J56 _ _ _ (lv_sub hl [0, 1, 2, 3, 4, 5, 6, 7, 8] rfl) hP hD hS
                          · have h := itF h c68
                            refine lv_iconst (v := 1) hx hb dL_reads_213 (by decide) ?_
                            refine lv_goto (tgt := 218) hx hb dL_reads_214 (by decide) ?_
                            obtain rfl := Option.some.inj h
                            exact J56 _ _ _ (lv_sub hl [0, 1, 2, 3, 4, 5, 6, 7, 8] rfl) hP hD hS
                      clear h
                      have h := hb69
                      clear hb69
                      refine lv_if_ne (tgt := 193) hx hb dL_reads_185 (by decide) (fun c59 => ?_) (fun c59 => ?_)
                      · have h := itF h c59
                        refine lv_bipush (v := 44) hx hb dL_reads_193 (by decide) ?_
                        obtain rfl := Option.some.inj h
                        exact J61 _ _ _ (lv_sub hl [0, 1, 2, 3, 4, 5, 7, 8, 9] rfl) hP hD hS
                      · have h := itT h c59
                        refine lv_bipush (v := 58) hx hb dL_reads_188 (by decide) ?_
                        refine lv_goto (tgt := 195) hx hb dL_reads_190 (by decide) ?_
                        obtain rfl := Option.some.inj h
                        exact J61 _ _ _ (lv_sub hl [0, 1, 2, 3, 4, 5, 7, 8, 9] rfl) hP hD hS
            obtain ⟨q75, hb76, h⟩ := bd h
            refine L_158 x5_30 x6_30 x8_30 ((x5_30 / (5 + (3 * x8_30))) &&& (((1 : Int32) <<< (x6_30 &&& 31)) - 1)) zp1_30 (upd zp2_30 (Int32.toNatClampNeg x8_30) ((x5_30 / (2 + x8_30)) - (x5_30 / (2 + x8_30)) / 2 * 2)) (upd zp3_30 (Int32.toNatClampNeg x8_30) ((x5_30 / (3 + (2 * x8_30))) - (x5_30 / (3 + (2 * x8_30))) / 6 * 6)) N q16.2 (x6_30 - 1) q16.1 (upd zp4_30 (Int32.toNatClampNeg x8_30) 0) q75 hb76 ?_ _ _ _ (lv_sub hl [2, 3, 4, 5, 6, 7, 1, 8, 9, 0] rfl) hP hD hS
            intro ls H locs hl hP hD hS
            refine lv_iinc (v := x8_30 + 1) (lv' := [(8, .int (x8_30 + 1)), (0, .ref a_p0), (2, .ref a_p2), (3, .ref a_p3), (4, .ref a_p4), (5, .int x5_30), (6, .int x6_30), (7, .int q75.1)]) hx hb dL_reads_238 hl (k := 7) rfl rfl (by decide) rfl (fun ls hl => ?_)
            refine lv_goto (tgt := 30) hx hb dL_reads_241 (by decide) ?_
            exact ih_30 q75.1 (x8_30 + 1) q75.2.1 (upd zp2_30 (Int32.toNatClampNeg x8_30) ((x5_30 / (2 + x8_30)) - (x5_30 / (2 + x8_30)) / 2 * 2)) (upd zp3_30 (Int32.toNatClampNeg x8_30) ((x5_30 / (3 + (2 * x8_30))) - (x5_30 / (3 + (2 * x8_30))) / 6 * 6)) q75.2.2 _ h J_30 _ _ _ (lv_sub hl [1, 2, 3, 4, 5, 6, 7, 0] rfl) hP hD hS
          clear h
          have h := hb77
          clear hb77
          refine lv_if_eq (tgt := 149) hx hb dL_reads_92 (by decide) (fun c15 => ?_) (fun c15 => ?_)
          · have h := itT h c15
            refine lv_iconst (v := 0) hx hb dL_reads_149 (by decide) ?_
            obtain rfl := Option.some.inj h
            exact J17 _ _ _ (lv_sub hl [1, 2, 3, 4, 5, 6, 8, 0] rfl) hP hD hS
          · have h := itF h c15
            refine lv_iload hx hb dL_reads_95 (lv_at hl 8 rfl) ?_
            refine lv_if_eq (tgt := 109) hx hb dL_reads_97 (by decide) (fun c19 => ?_) (fun c19 => ?_)
            · have h := itT h c19
              refine lv_aload_n hx hb dL_reads_109 rfl (lv_at hl 1 rfl) ?_
              refine lv_aload_n hx hb dL_reads_110 rfl (lv_at hl 2 rfl) ?_
              refine lv_iload hx hb dL_reads_111 (lv_at hl 8 rfl) ?_
              obtain ⟨g20, h⟩ := chk_s h
              refine va_iald hx hb hK hP 40 0 rfl rfl (gi_in g20) dL_reads_113 ?_
              refine lv_iconst (v := 1) hx hb dL_reads_114 (by decide) ?_
              obtain ⟨q22, hb32, h⟩ := bd h
              have J23 : ∀ (ls : Array Slot) (H : Heap) (locs : List Loc), lv_has ls 11 [(0, .ref a_p0), (2, .ref a_p2), (3, .ref a_p3), (4, .ref a_p4), (5, .int x5_30), (6, .int x6_30), (8, .int x8_30), (9, .int ((x5_30 / (5 + (3 * x8_30))) &&& (((1 : Int32) <<< (x6_30 &&& 31)) - 1)))] → va_P D vwCl (wO cI cC cH a_p0 ad zp0_30 ++ [(a_p1, .inl (cI, 1, .inl zp1_30)), (a_p2, .inl (cI, 12, .inl (upd zp2_30 (Int32.toNatClampNeg x8_30) ((x5_30 / (2 + x8_30)) - (x5_30 / (2 + x8_30)) / 2 * 2)))), (a_p3, .inl (cI, 12, .inl (upd zp3_30 (Int32.toNatClampNeg x8_30) ((x5_30 / (3 + (2 * x8_30))) - (x5_30 / (3 + (2 * x8_30))) / 6 * 6)))), (a_p4, .inl (cI, 12, .inl (upd zp4_30 (Int32.toNatClampNeg x8_30) 0)))]) H → va_D A (wO cI cC cH a_p0 ad zp0_30 ++ [(a_p1, .inl (cI, 1, .inl zp1_30)), (a_p2, .inl (cI, 12, .inl (upd zp2_30 (Int32.toNatClampNeg x8_30) ((x5_30 / (2 + x8_30)) - (x5_30 / (2 + x8_30)) / 2 * 2)))), (a_p3, .inl (cI, 12, .inl (upd zp3_30 (Int32.toNatClampNeg x8_30) ((x5_30 / (3 + (2 * x8_30))) - (x5_30 / (3 + (2 * x8_30))) / 6 * 6)))), (a_p4, .inl (cI, 12, .inl (upd zp4_30 (Int32.toNatClampNeg x8_30) 0)))]) → va_S A s.heap H locs → W p l e (rmn 7 152 0 0) s m args below meth c H locs 0 0 Q (F0 m 125 ls [.int q22, .ref a_p0]) := by
                intro ls H locs hl hP hD hS
                obtain ⟨q25, hq26, h⟩ := bd h
                refine lx4_type l D cI cC cH a_p0 ad N q22 zp0_30 q25 [] hq26 F hP hD hS hl ⟨Nat.le_of_ble_eq_true rfl, Nat.le_of_ble_eq_true rfl, (Nat.le_of_ble_eq_true rfl), (Nat.le_of_ble_eq_true rfl)⟩ (Nat.le_of_ble_eq_true rfl) dL_reads_125 (fun H locs hP hD hS => ?_)
                refine lv_if_le (tgt := 149) hx hb dL_reads_128 (by decide) (fun c27 => ?_) (fun c27 => ?_)
                · have h := itT h c27
                  refine lv_iconst (v := 0) hx hb dL_reads_149 (by decide) ?_
                  obtain rfl := Option.some.inj h
                  exact J17 _ _ _ (lv_sub hl [0, 1, 2, 3, 4, 5, 6, 7] rfl) hP hD hS
                · have h := itF h c27
                  refine lv_aload_n hx hb dL_reads_131 rfl (lv_at hl 0 rfl) ?_
                  refine lv_bipush (v := 48) hx hb dL_reads_132 (by decide) ?_
                  refine lv_aload_n hx hb dL_reads_134 rfl (lv_at hl 2 rfl) ?_
                  refine lv_iload hx hb dL_reads_135 (lv_at hl 6 rfl) ?_
                  obtain ⟨g28, h⟩ := chk_s h
                  refine va_iald hx hb hK hP 41 0 rfl rfl (gi_in g28) dL_reads_137 ?_
                  refine lv_iadd hx hb dL_reads_138 ?_
                  obtain ⟨q29, hq30, h⟩ := bd h
                  refine lx4_type l D cI cC cH a_p0 ad N (48 + ((upd zp3_30 (Int32.toNatClampNeg x8_30) ((x5_30 / (3 + (2 * x8_30))) - (x5_30 / (3 + (2 * x8_30))) / 6 * 6)) (Int32.toNatClampNeg x8_30))) q25.2 q29 [] hq30 F hP hD hS hl ⟨Nat.le_of_ble_eq_true rfl, Nat.le_of_ble_eq_true rfl, (Nat.le_of_ble_eq_true rfl), (Nat.le_of_ble_eq_true rfl)⟩ (Nat.le_of_ble_eq_true rfl) dL_reads_139 (fun H locs hP hD hS => ?_)
                  refine lv_if_le (tgt := 149) hx hb dL_reads_142 (by decide) (fun c31 => ?_) (fun c31 => ?_)
                  · have h := itT h c31
                    refine lv_iconst (v := 0) hx hb dL_reads_149 (by decide) ?_
                    obtain rfl := Option.some.inj h
                    exact J17 _ _ _ (lv_sub hl [0, 1, 2, 3, 4, 5, 6, 7] rfl) hP hD hS
                  · have h := itF h c31
                    refine lv_iconst (v := 1) hx hb dL_reads_145 (by decide) ?_
                    refine lv_goto (tgt := 150) hx hb dL_reads_146 (by decide) ?_
                    obtain rfl := Option.some.inj h
                    exact J17 _ _ _ (lv_sub hl [0, 1, 2, 3, 4, 5, 6, 7] rfl) hP hD hS
              clear h
              have h := hb32
              clear hb32
              refine lv_icmp_ne (tgt := 123) hx hb dL_reads_115 (by decide) (fun c21 => ?_) (fun c21 => ?_)
              · have h := itF h c21
                refine lv_bipush (v := 101) hx hb dL_reads_123 (by decide) ?_
                obtain rfl := Option.some.inj h
                exact J23 _ _ _ (lv_sub hl [1, 2, 3, 4, 5, 6, 8, 0] rfl) hP hD hS
              · have h := itT h c21
                refine lv_bipush (v := 111) hx hb dL_reads_118 (by decide) ?_
                refine lv_goto (tgt := 125) hx hb dL_reads_120 (by decide) ?_
                obtain rfl := Option.some.inj h
                exact J23 _ _ _ (lv_sub hl [1, 2, 3, 4, 5, 6, 8, 0] rfl) hP hD hS
            · have h := itF h c19
              refine lv_aload_n hx hb dL_reads_100 rfl (lv_at hl 1 rfl) ?_
              refine lv_bipush (v := 59) hx hb dL_reads_101 (by decide) ?_
              obtain ⟨q33, hq34, h⟩ := bd h
              refine lx4_type l D cI cC cH a_p0 ad N 59 zp0_30 q33 [] hq34 F hP hD hS hl ⟨Nat.le_of_ble_eq_true rfl, Nat.le_of_ble_eq_true rfl, (Nat.le_of_ble_eq_true rfl), (Nat.le_of_ble_eq_true rfl)⟩ (Nat.le_of_ble_eq_true rfl) dL_reads_103 (fun H locs hP hD hS => ?_)
              refine lv_if_le (tgt := 149) hx hb dL_reads_106 (by decide) (fun c35 => ?_) (fun c35 => ?_)
              · have h := itT h c35
                refine lv_iconst (v := 0) hx hb dL_reads_149 (by decide) ?_
                obtain rfl := Option.some.inj h
                exact J17 _ _ _ (lv_sub hl [1, 2, 3, 4, 5, 6, 8, 0] rfl) hP hD hS
              · have h := itF h c35
                refine lv_aload_n hx hb dL_reads_109 rfl (lv_at hl 1 rfl) ?_
                refine lv_aload_n hx hb dL_reads_110 rfl (lv_at hl 2 rfl) ?_
                refine lv_iload hx hb dL_reads_111 (lv_at hl 8 rfl) ?_
                obtain ⟨g36, h⟩ := chk_s h
                refine va_iald hx hb hK hP 40 0 rfl rfl (gi_in g36) dL_reads_113 ?_
                refine lv_iconst (v := 1) hx hb dL_reads_114 (by decide) ?_
                obtain ⟨q38, hb48, h⟩ := bd h
                have J39 : ∀ (ls : Array Slot) (H : Heap) (locs : List Loc), lv_has ls 11 [(0, .ref a_p0), (2, .ref a_p2), (3, .ref a_p3), (4, .ref a_p4), (5, .int x5_30), (6, .int x6_30), (8, .int x8_30), (9, .int ((x5_30 / (5 + (3 * x8_30))) &&& (((1 : Int32) <<< (x6_30 &&& 31)) - 1)))] → va_P D vwCl (wO cI cC cH a_p0 ad q33.2 ++ [(a_p1, .inl (cI, 1, .inl zp1_30)), (a_p2, .inl (cI, 12, .inl (upd zp2_30 (Int32.toNatClampNeg x8_30) ((x5_30 / (2 + x8_30)) - (x5_30 / (2 + x8_30)) / 2 * 2)))), (a_p3, .inl (cI, 12, .inl (upd zp3_30 (Int32.toNatClampNeg x8_30) ((x5_30 / (3 + (2 * x8_30))) - (x5_30 / (3 + (2 * x8_30))) / 6 * 6)))), (a_p4, .inl (cI, 12, .inl (upd zp4_30 (Int32.toNatClampNeg x8_30) 0)))]) H → va_D A (wO cI cC cH a_p0 ad q33.2 ++ [(a_p1, .inl (cI, 1, .inl zp1_30)), (a_p2, .inl (cI, 12, .inl (upd zp2_30 (Int32.toNatClampNeg x8_30) ((x5_30 / (2 + x8_30)) - (x5_30 / (2 + x8_30)) / 2 * 2)))), (a_p3, .inl (cI, 12, .inl (upd zp3_30 (Int32.toNatClampNeg x8_30) ((x5_30 / (3 + (2 * x8_30))) - (x5_30 / (3 + (2 * x8_30))) / 6 * 6)))), (a_p4, .inl (cI, 12, .inl (upd zp4_30 (Int32.toNatClampNeg x8_30) 0)))]) → va_S A s.heap H locs → W p l e (rmn 7 152 0 0) s m args below meth c H locs 0 0 Q (F0 m 125 ls [.int q38, .ref a_p0]) := by
                  intro ls H locs hl hP hD hS
                  obtain ⟨q41, hq42, h⟩ := bd h
                  refine lx4_type l D cI cC cH a_p0 ad N q38 q33.2 q41 [] hq42 F hP hD hS hl ⟨Nat.le_of_ble_eq_true rfl, Nat.le_of_ble_eq_true rfl, (Nat.le_of_ble_eq_true rfl), (Nat.le_of_ble_eq_true rfl)⟩ (Nat.le_of_ble_eq_true rfl) dL_reads_125 (fun H locs hP hD hS => ?_)
                  refine lv_if_le (tgt := 149) hx hb dL_reads_128 (by decide) (fun c43 => ?_) (fun c43 => ?_)
                  · have h := itT h c43
                    refine lv_iconst (v := 0) hx hb dL_reads_149 (by decide) ?_
                    obtain rfl := Option.some.inj h
                    exact J17 _ _ _ (lv_sub hl [0, 1, 2, 3, 4, 5, 6, 7] rfl) hP hD hS
                  · have h := itF h c43
                    refine lv_aload_n hx hb dL_reads_131 rfl (lv_at hl 0 rfl) ?_
                    refine lv_bipush (v := 48) hx hb dL_reads_132 (by decide) ?_
                    refine lv_aload_n hx hb dL_reads_134 rfl (lv_at hl 2 rfl) ?_
                    refine lv_iload hx hb dL_reads_135 (lv_at hl 6 rfl) ?_
                    obtain ⟨g44, h⟩ := chk_s h
                    refine va_iald hx hb hK hP 41 0 rfl rfl (gi_in g44) dL_reads_137 ?_
                    refine lv_iadd hx hb dL_reads_138 ?_
                    obtain ⟨q45, hq46, h⟩ := bd h
                    refine lx4_type l D cI cC cH a_p0 ad N (48 + ((upd zp3_30 (Int32.toNatClampNeg x8_30) ((x5_30 / (3 + (2 * x8_30))) - (x5_30 / (3 + (2 * x8_30))) / 6 * 6)) (Int32.toNatClampNeg x8_30))) q41.2 q45 [] hq46 F hP hD hS hl ⟨Nat.le_of_ble_eq_true rfl, Nat.le_of_ble_eq_true rfl, (Nat.le_of_ble_eq_true rfl), (Nat.le_of_ble_eq_true rfl)⟩ (Nat.le_of_ble_eq_true rfl) dL_reads_139 (fun H locs hP hD hS => ?_)
                    refine lv_if_le (tgt := 149) hx hb dL_reads_142 (by decide) (fun c47 => ?_) (fun c47 => ?_)
                    · have h := itT h c47
                      refine lv_iconst (v := 0) hx hb dL_reads_149 (by decide) ?_
                      obtain rfl := Option.some.inj h
                      exact J17 _ _ _ (lv_sub hl [0, 1, 2, 3, 4, 5, 6, 7] rfl) hP hD hS
                    · have h := itF h c47
                      refine lv_iconst (v := 1) hx hb dL_reads_145 (by decide) ?_
                      refine lv_goto (tgt := 150) hx hb dL_reads_146 (by decide) ?_
                      obtain rfl := Option.some.inj h
                      exact J17 _ _ _ (lv_sub hl [0, 1, 2, 3, 4, 5, 6, 7] rfl) hP hD hS
                clear h
                have h := hb48
                clear hb48
                refine lv_icmp_ne (tgt := 123) hx hb dL_reads_115 (by decide) (fun c37 => ?_) (fun c37 => ?_)
                · have h := itF h c37
                  refine lv_bipush (v := 101) hx hb dL_reads_123 (by decide) ?_
                  obtain rfl := Option.some.inj h
                  exact J39 _ _ _ (lv_sub hl [1, 2, 3, 4, 5, 6, 8, 0] rfl) hP hD hS
                · have h := itT h c37
                  refine lv_bipush (v := 111) hx hb dL_reads_118 (by decide) ?_
                  refine lv_goto (tgt := 125) hx hb dL_reads_120 (by decide) ?_
                  obtain rfl := Option.some.inj h
                  exact J39 _ _ _ (lv_sub hl [1, 2, 3, 4, 5, 6, 8, 0] rfl) hP hD hS
    obtain ⟨q79, hb90, h⟩ := bd h
    refine L_30 x5 (1 + (x5 - x5 / 5 * 5)) (upd zp1 (Int32.toNatClampNeg 0) (1 + (x5 - x5 / 5 * 5))) N q4 0 q1.2 zp2 zp3 zp4 q79 hb90 ?_ _ _ _ (lv_sub hl [2, 4, 5, 6, 7, 8, 1, 0] rfl) hP hD hS
    intro ls H locs hl hP hD hS
    refine lv_iload hx hb dL_reads_244 (lv_at hl 2 rfl) ?_
    refine lv_if_eq (tgt := 279) hx hb dL_reads_246 (by decide) (fun c80 => ?_) (fun c80 => ?_)
    · have h := itT h c80
      refine lv_iconst (v := 0) hx hb dL_reads_279 (by decide) ?_
      obtain rfl := Option.some.inj h
      exact hret _ _ _ _ _ _ _ rfl (Nat.le_refl _) (Nat.le_refl _) rfl hP hD hS dL_reads_280
    · have h := itF h c80
      refine lv_aload_n hx hb dL_reads_249 rfl (lv_at hl 0 rfl) ?_
      refine lv_iconst (v := 0) hx hb dL_reads_250 (by decide) ?_
      obtain ⟨q81, hq82, h⟩ := bd h
      refine lx4_fault l D cI cC cH a_p0 ad N 0 q79.2.1 q81 [] hq82 F hP hD hS hl ⟨Nat.le_of_ble_eq_true rfl, Nat.le_of_ble_eq_true rfl, (Nat.le_of_ble_eq_true rfl), (Nat.le_of_ble_eq_true rfl)⟩ (Nat.le_of_ble_eq_true rfl) dL_reads_251 (fun H locs hP hD hS => ?_)
      refine lv_bipush (v := (-4)) hx hb dL_reads_254 (by decide) ?_
      refine lv_icmp_ne (tgt := 279) hx hb dL_reads_256 (by decide) (fun c83 => ?_) (fun c83 => ?_)
      · have h := itF h c83
        refine lv_iconst (v := 0) hx hb dL_reads_279 (by decide) ?_
        obtain rfl := Option.some.inj h
        exact hret _ _ _ _ _ _ _ rfl (Nat.le_refl _) (Nat.le_refl _) rfl hP hD hS dL_reads_280
      · have h := itT h c83
        refine lv_aload_n hx hb dL_reads_259 rfl (lv_at hl 0 rfl) ?_
        obtain ⟨q84, hq85, h⟩ := bd h
        refine lx4_read l D cI cC cH a_p0 ad N  q81.2 q84 [] hq85 F hP hD hS hl ⟨Nat.le_of_ble_eq_true rfl, Nat.le_of_ble_eq_true rfl, (Nat.le_of_ble_eq_true rfl), (Nat.le_of_ble_eq_true rfl)⟩ (Nat.le_of_ble_eq_true rfl) dL_reads_260 (fun H locs hP hD hS => ?_)
        refine lv_iload hx hb dL_reads_263 (lv_at hl 1 rfl) ?_
        refine lv_icmp_ne (tgt := 279) hx hb dL_reads_265 (by decide) (fun c86 => ?_) (fun c86 => ?_)
        · have h := itF h c86
          refine lv_iconst (v := 0) hx hb dL_reads_279 (by decide) ?_
          obtain rfl := Option.some.inj h
          exact hret _ _ _ _ _ _ _ rfl (Nat.le_refl _) (Nat.le_refl _) rfl hP hD hS dL_reads_280
        · have h := itT h c86
          refine lv_aload_n hx hb dL_reads_268 rfl (lv_at hl 0 rfl) ?_
          obtain ⟨q87, hq88, h⟩ := bd h
          refine lx4_clearText l D cI cC cH a_p0 ad N  q84.2 q87 [] hq88 F hP hD hS hl ⟨Nat.le_of_ble_eq_true rfl, Nat.le_of_ble_eq_true rfl, (Nat.le_of_ble_eq_true rfl), (Nat.le_of_ble_eq_true rfl)⟩ (Nat.le_of_ble_eq_true rfl) dL_reads_269 (fun H locs hP hD hS => ?_)
          refine lv_if_le (tgt := 279) hx hb dL_reads_272 (by decide) (fun c89 => ?_) (fun c89 => ?_)
          · have h := itT h c89
            refine lv_iconst (v := 0) hx hb dL_reads_279 (by decide) ?_
            obtain rfl := Option.some.inj h
            exact hret _ _ _ _ _ _ _ rfl (Nat.le_refl _) (Nat.le_refl _) rfl hP hD hS dL_reads_280
          · have h := itF h c89
            refine lv_iconst (v := 1) hx hb dL_reads_275 (by decide) ?_
            refine lv_goto (tgt := 280) hx hb dL_reads_276 (by decide) ?_
            obtain rfl := Option.some.inj h
            exact hret _ _ _ _ _ _ _ rfl (Nat.le_refl _) (Nat.le_refl _) rfl hP hD hS dL_reads_280
  clear h
  have h := hb91
  clear hb91
  refine lv_if_lt (tgt := 19) hx hb dL_reads_12 (by decide) (fun c3 => ?_) (fun c3 => ?_)
  · have h := itT h c3
    refine lv_iconst (v := 0) hx hb dL_reads_19 (by decide) ?_
    obtain rfl := Option.some.inj h
    exact J5 _ _ _ (lv_sub hl [1, 2, 3, 4, 5, 6, 0] rfl) hP hD hS
  · have h := itF h c3
    refine lv_iconst (v := 1) hx hb dL_reads_15 (by decide) ?_
    refine lv_goto (tgt := 20) hx hb dL_reads_16 (by decide) ?_
    obtain rfl := Option.some.inj h
    exact J5 _ _ _ (lv_sub hl [1, 2, 3, 4, 5, 6, 0] rfl) hP hD hS
def f_L_acts_L336 (N : Nat) (x8_336 : Int32) (zp1_336 : Nat → Int32) : Nat → Int32 → (Nat → Int32) → (Nat → Int32) → (Nat → Int32) → Option ((Nat → Int32) × (Nat → Int32) × (Nat → Int32))
  | 0, _, _, _, _ => none
  | n_336 + 1, x10_336, zp2_336, zp3_336, zp4_336 =>
    chk (gi 0 1) (if (zp1_336 (Int32.toNatClampNeg 0)) ≤ x10_336 then (some (zp2_336, zp3_336, zp4_336)) else (Option.bind (α := Int32) (if x8_336 ≤ x10_336 then (some (x10_336 + 1)) else (some (x10_336))) (fun q60 => chk (gi q60 12) (chk (gi x10_336 12) (chk (gi q60 12) (chk (gi x10_336 12) (chk (gi q60 12) (chk (gi x10_336 12) (f_L_acts_L336 N x8_336 zp1_336 n_336 (x10_336 + 1) (upd zp2_336 (Int32.toNatClampNeg x10_336) (zp2_336 (Int32.toNatClampNeg q60))) (upd zp3_336 (Int32.toNatClampNeg x10_336) (zp3_336 (Int32.toNatClampNeg q60))) (upd zp4_336 (Int32.toNatClampNeg x10_336) (zp4_336 (Int32.toNatClampNeg q60))))))))))))
def f_L_acts_L397 (N : Nat) (x8_397 : Int32) (zp1_397 : Nat → Int32) : Nat → Int32 → (Nat → Int32) → Option ((Nat → Int32))
  | 0, _, _ => none
  | n_397 + 1, x10_397, zp4_397 =>
    chk (gi 0 1) (if (zp1_397 (Int32.toNatClampNeg 0)) ≤ x10_397 then (some zp4_397) else (chk (gi x10_397 12) (chk (gi x10_397 12) (chk (gi x10_397 12) (f_L_acts_L397 N x8_397 zp1_397 n_397 (x10_397 + 1) (upd zp4_397 (Int32.toNatClampNeg x10_397) (((zp4_397 (Int32.toNatClampNeg x10_397)) &&& (((1 : Int32) <<< (x8_397 &&& 31)) - 1)) ||| (((zp4_397 (Int32.toNatClampNeg x10_397)) >>> ((x8_397 + 1) &&& 31)) <<< (x8_397 &&& 31)))))))))
def f_L_acts (N : Nat) (x5 : Int32) (zp0 : XS) (zp1 : Nat → Int32) (zp2 : Nat → Int32) (zp3 : Nat → Int32) (zp4 : Nat → Int32) : Option (Int32 × XS × (Nat → Int32) × (Nat → Int32) × (Nat → Int32) × (Nat → Int32)) :=
    Option.bind (f_L_low N (x5 >>> (5 &&& 31)) 10000000) (fun q1 => Option.bind (f_L_low N x5 20) (fun q3 => Option.bind (α := (Int32 × XS × (Nat → Int32) × (Nat → Int32) × (Nat → Int32) × (Nat → Int32)) ⊕ (XS × (Nat → Int32) × (Nat → Int32) × (Nat → Int32) × (Nat → Int32))) (if q3 < 4 then (chk (gi 0 1) (if 8 ≤ (zp1 (Int32.toNatClampNeg 0)) then (some (.inr (zp0, zp1, zp2, zp3, zp4))) else (chk (gi 0 1) (chk (gi (zp1 (Int32.toNatClampNeg 0)) 12) (chk (gi (zp1 (Int32.toNatClampNeg 0)) 12) (chk (gi (zp1 (Int32.toNatClampNeg 0)) 12) (chk (gi 0 1) (chk (gi 0 1) (chk (gi (zp1 (Int32.toNatClampNeg 0)) 12) (chk (gi (zp1 (Int32.toNatClampNeg 0)) 12) (Option.bind (x_add N ((upd zp2 (Int32.toNatClampNeg (zp1 (Int32.toNatClampNeg 0))) (q1 - q1 / 2 * 2)) (Int32.toNatClampNeg (zp1 (Int32.toNatClampNeg 0)))) ((upd zp3 (Int32.toNatClampNeg (zp1 (Int32.toNatClampNeg 0))) ((q1 / 2) - (q1 / 2) / 6 * 6)) (Int32.toNatClampNeg (zp1 (Int32.toNatClampNeg 0)))) zp0) (fun q20 => if q20.1 = (zp1 (Int32.toNatClampNeg 0)) then (some (.inl (1, q20.2, upd zp1 (Int32.toNatClampNeg 0) ((zp1 (Int32.toNatClampNeg 0)) + 1), upd zp2 (Int32.toNatClampNeg (zp1 (Int32.toNatClampNeg 0))) (q1 - q1 / 2 * 2), upd zp3 (Int32.toNatClampNeg (zp1 (Int32.toNatClampNeg 0))) ((q1 / 2) - (q1 / 2) / 6 * 6), upd zp4 (Int32.toNatClampNeg (zp1 (Int32.toNatClampNeg 0))) 0))) else (some (.inl (0, q20.2, upd zp1 (Int32.toNatClampNeg 0) ((zp1 (Int32.toNatClampNeg 0)) + 1), upd zp2 (Int32.toNatClampNeg (zp1 (Int32.toNatClampNeg 0))) (q1 - q1 / 2 * 2), upd zp3 (Int32.toNatClampNeg (zp1 (Int32.toNatClampNeg 0))) ((q1 / 2) - (q1 / 2) / 6 * 6), upd zp4 (Int32.toNatClampNeg (zp1 (Int32.toNatClampNeg 0))) 0))))))))))))))) else (chk (gi 0 1) (if (zp1 (Int32.toNatClampNeg 0)) = 0 then (chk (gi 0 1) (if 8 ≤ (zp1 (Int32.toNatClampNeg 0)) then (some (.inr (zp0, zp1, zp2, zp3, zp4))) else (chk (gi 0 1) (chk (gi (zp1 (Int32.toNatClampNeg 0)) 12) (chk (gi (zp1 (Int32.toNatClampNeg 0)) 12) (chk (gi (zp1 (Int32.toNatClampNeg 0)) 12) (chk (gi 0 1) (chk (gi 0 1) (chk (gi (zp1 (Int32.toNatClampNeg 0)) 12) (chk (gi (zp1 (Int32.toNatClampNeg 0)) 12) (Option.bind (x_add N ((upd zp2 (Int32.toNatClampNeg (zp1 (Int32.toNatClampNeg 0))) (q1 - q1 / 2 * 2)) (Int32.toNatClampNeg (zp1 (Int32.toNatClampNeg 0)))) ((upd zp3 (Int32.toNatClampNeg (zp1 (Int32.toNatClampNeg 0))) ((q1 / 2) - (q1 / 2) / 6 * 6)) (Int32.toNatClampNeg (zp1 (Int32.toNatClampNeg 0)))) zp0) (fun q35 => if q35.1 = (zp1 (Int32.toNatClampNeg 0)) then (some (.inl (1, q35.2, upd zp1 (Int32.toNatClampNeg 0) ((zp1 (Int32.toNatClampNeg 0)) + 1), upd zp2 (Int32.toNatClampNeg (zp1 (Int32.toNatClampNeg 0))) (q1 - q1 / 2 * 2), upd zp3 (Int32.toNatClampNeg (zp1 (Int32.toNatClampNeg 0))) ((q1 / 2) - (q1 / 2) / 6 * 6), upd zp4 (Int32.toNatClampNeg (zp1 (Int32.toNatClampNeg 0))) 0))) else (some (.inl (0, q35.2, upd zp1 (Int32.toNatClampNeg 0) ((zp1 (Int32.toNatClampNeg 0)) + 1), upd zp2 (Int32.toNatClampNeg (zp1 (Int32.toNatClampNeg 0))) (q1 - q1 / 2 * 2), upd zp3 (Int32.toNatClampNeg (zp1 (Int32.toNatClampNeg 0))) ((q1 / 2) - (q1 / 2) / 6 * 6), upd zp4 (Int32.toNatClampNeg (zp1 (Int32.toNatClampNeg 0))) 0))))))))))))))) else (some (.inr (zp0, zp1, zp2, zp3, zp4)))))) (fun q6 => sm q6 some (fun t7 => chk (gi 0 1) (chk (decide (¬ (t7.2.1 (Int32.toNatClampNeg 0)) = 0)) (chk (gi 0 1) (chk (decide (¬ (t7.2.1 (Int32.toNatClampNeg 0)) = 0)) (if 13 ≤ q3 then (if 15 ≤ q3 then (if 18 ≤ q3 then (Option.bind (α := (Int32 × XS × (Nat → Int32) × (Nat → Int32) × (Nat → Int32) × (Nat → Int32)) ⊕ (Unit)) (if q3 = 18 then (if (q1 - q1 / 3 * 3) ≤ 0 then (some (.inr ())) else (some (.inl (1, t7.1, t7.2.1, t7.2.2.1, t7.2.2.2.1, t7.2.2.2.2)))) else (some (.inr ()))) (fun q46 => sm q46 some (fun t47 => if q3 = 18 then (chk (gi 0 1) (chk (gi 0 1) (Option.bind (f_L_acts_L336 N (q1 - q1 / (t7.2.1 (Int32.toNatClampNeg 0)) * (t7.2.1 (Int32.toNatClampNeg 0))) (upd t7.2.1 (Int32.toNatClampNeg 0) ((t7.2.1 (Int32.toNatClampNeg 0)) - 1)) N 0 t7.2.2.1 t7.2.2.2.1 t7.2.2.2.2) (fun q71 => Option.bind (f_L_acts_L397 N (q1 - q1 / (t7.2.1 (Int32.toNatClampNeg 0)) * (t7.2.1 (Int32.toNatClampNeg 0))) (upd t7.2.1 (Int32.toNatClampNeg 0) ((t7.2.1 (Int32.toNatClampNeg 0)) - 1)) N 0 q71.2.2) (fun q78 => Option.bind (x_drop N (q1 - q1 / (t7.2.1 (Int32.toNatClampNeg 0)) * (t7.2.1 (Int32.toNatClampNeg 0))) t7.1) (fun q79 => chk (gi 0 1) (if q79.1 = ((upd t7.2.1 (Int32.toNatClampNeg 0) ((t7.2.1 (Int32.toNatClampNeg 0)) - 1)) (Int32.toNatClampNeg 0)) then (some (1, q79.2, upd t7.2.1 (Int32.toNatClampNeg 0) ((t7.2.1 (Int32.toNatClampNeg 0)) - 1), q71.1, q71.2.1, q78)) else (some (0, q79.2, upd t7.2.1 (Int32.toNatClampNeg 0) ((t7.2.1 (Int32.toNatClampNeg 0)) - 1), q71.1, q71.2.1, q78))))))))) else (Option.bind (f_L_reads N q1 t7.1 t7.2.1 t7.2.2.1 t7.2.2.2.1 t7.2.2.2.2) (fun q52 => chk (isZ q52.1) (some (q52.1, q52.2.1, q52.2.2.1, q52.2.2.2.1, q52.2.2.2.2.1, q52.2.2.2.2.2))))))) else (chk (gi (q1 - q1 / (t7.2.1 (Int32.toNatClampNeg 0)) * (t7.2.1 (Int32.toNatClampNeg 0))) 12) (chk (gi (q1 - q1 / (t7.2.1 (Int32.toNatClampNeg 0)) * (t7.2.1 (Int32.toNatClampNeg 0))) 12) (chk (gi (q1 - q1 / (t7.2.1 (Int32.toNatClampNeg 0)) * (t7.2.1 (Int32.toNatClampNeg 0))) 12) (Option.bind (x_rank N (q1 - q1 / (t7.2.1 (Int32.toNatClampNeg 0)) * (t7.2.1 (Int32.toNatClampNeg 0))) ((upd t7.2.2.2.1 (Int32.toNatClampNeg (q1 - q1 / (t7.2.1 (Int32.toNatClampNeg 0)) * (t7.2.1 (Int32.toNatClampNeg 0)))) ((q1 / 12) - (q1 / 12) / 6 * 6)) (Int32.toNatClampNeg (q1 - q1 / (t7.2.1 (Int32.toNatClampNeg 0)) * (t7.2.1 (Int32.toNatClampNeg 0))))) t7.1) (fun q89 => if q89.1 = (t7.2.2.2.1 (Int32.toNatClampNeg (q1 - q1 / (t7.2.1 (Int32.toNatClampNeg 0)) * (t7.2.1 (Int32.toNatClampNeg 0))))) then (some (1, q89.2, t7.2.1, t7.2.2.1, upd t7.2.2.2.1 (Int32.toNatClampNeg (q1 - q1 / (t7.2.1 (Int32.toNatClampNeg 0)) * (t7.2.1 (Int32.toNatClampNeg 0)))) ((q1 / 12) - (q1 / 12) / 6 * 6), t7.2.2.2.2)) else (some (0, q89.2, t7.2.1, t7.2.2.1, upd t7.2.2.2.1 (Int32.toNatClampNeg (q1 - q1 / (t7.2.1 (Int32.toNatClampNeg 0)) * (t7.2.1 (Int32.toNatClampNeg 0)))) ((q1 / 12) - (q1 / 12) / 6 * 6), t7.2.2.2.2)))))))) else (chk (gi (q1 - q1 / (t7.2.1 (Int32.toNatClampNeg 0)) * (t7.2.1 (Int32.toNatClampNeg 0))) 12) (chk (gi (q1 - q1 / (t7.2.1 (Int32.toNatClampNeg 0)) * (t7.2.1 (Int32.toNatClampNeg 0))) 12) (chk (gi (q1 - q1 / (t7.2.1 (Int32.toNatClampNeg 0)) * (t7.2.1 (Int32.toNatClampNeg 0))) 12) (Option.bind (x_own N (q1 - q1 / (t7.2.1 (Int32.toNatClampNeg 0)) * (t7.2.1 (Int32.toNatClampNeg 0))) ((upd t7.2.2.1 (Int32.toNatClampNeg (q1 - q1 / (t7.2.1 (Int32.toNatClampNeg 0)) * (t7.2.1 (Int32.toNatClampNeg 0)))) ((q1 / 12) - (q1 / 12) / 2 * 2)) (Int32.toNatClampNeg (q1 - q1 / (t7.2.1 (Int32.toNatClampNeg 0)) * (t7.2.1 (Int32.toNatClampNeg 0))))) t7.1) (fun q95 => if q95.1 = (t7.2.2.1 (Int32.toNatClampNeg (q1 - q1 / (t7.2.1 (Int32.toNatClampNeg 0)) * (t7.2.1 (Int32.toNatClampNeg 0))))) then (some (1, q95.2, t7.2.1, upd t7.2.2.1 (Int32.toNatClampNeg (q1 - q1 / (t7.2.1 (Int32.toNatClampNeg 0)) * (t7.2.1 (Int32.toNatClampNeg 0)))) ((q1 / 12) - (q1 / 12) / 2 * 2), t7.2.2.2.1, t7.2.2.2.2)) else (some (0, q95.2, t7.2.1, upd t7.2.2.1 (Int32.toNatClampNeg (q1 - q1 / (t7.2.1 (Int32.toNatClampNeg 0)) * (t7.2.1 (Int32.toNatClampNeg 0)))) ((q1 / 12) - (q1 / 12) / 2 * 2), t7.2.2.2.1, t7.2.2.2.2)))))))) else (chk (gi (q1 - q1 / (t7.2.1 (Int32.toNatClampNeg 0)) * (t7.2.1 (Int32.toNatClampNeg 0))) 12) (Option.bind (α := (Int32 × XS × (Nat → Int32) × (Nat → Int32) × (Nat → Int32) × (Nat → Int32)) ⊕ (XS)) (if (((t7.2.2.2.2 (Int32.toNatClampNeg (q1 - q1 / (t7.2.1 (Int32.toNatClampNeg 0)) * (t7.2.1 (Int32.toNatClampNeg 0))))) >>> (((q1 / 12) - (q1 / 12) / (t7.2.1 (Int32.toNatClampNeg 0)) * (t7.2.1 (Int32.toNatClampNeg 0))) &&& 31)) &&& 1) = 1 then (if (q1 - q1 / 5 * 5) ≤ 0 then (some (.inr (t7.1))) else (Option.bind (x_way N (q1 - q1 / (t7.2.1 (Int32.toNatClampNeg 0)) * (t7.2.1 (Int32.toNatClampNeg 0))) ((q1 / 12) - (q1 / 12) / (t7.2.1 (Int32.toNatClampNeg 0)) * (t7.2.1 (Int32.toNatClampNeg 0))) 1 t7.1) (fun q105 => if q105.1 = (-2) then (some (.inl (1, q105.2, t7.2.1, t7.2.2.1, t7.2.2.2.1, t7.2.2.2.2))) else (some (.inl (0, q105.2, t7.2.1, t7.2.2.1, t7.2.2.2.1, t7.2.2.2.2)))))) else (some (.inr (t7.1)))) (fun q100 => sm q100 some (fun t101 => chk (gi (q1 - q1 / (t7.2.1 (Int32.toNatClampNeg 0)) * (t7.2.1 (Int32.toNatClampNeg 0))) 12) (chk (gi (q1 - q1 / (t7.2.1 (Int32.toNatClampNeg 0)) * (t7.2.1 (Int32.toNatClampNeg 0))) 12) (Option.bind (x_way N (q1 - q1 / (t7.2.1 (Int32.toNatClampNeg 0)) * (t7.2.1 (Int32.toNatClampNeg 0))) ((q1 / 12) - (q1 / 12) / (t7.2.1 (Int32.toNatClampNeg 0)) * (t7.2.1 (Int32.toNatClampNeg 0))) (1 - (((t7.2.2.2.2 (Int32.toNatClampNeg (q1 - q1 / (t7.2.1 (Int32.toNatClampNeg 0)) * (t7.2.1 (Int32.toNatClampNeg 0))))) >>> (((q1 / 12) - (q1 / 12) / (t7.2.1 (Int32.toNatClampNeg 0)) * (t7.2.1 (Int32.toNatClampNeg 0))) &&& 31)) &&& 1)) t101) (fun q110 => chk (gi (q1 - q1 / (t7.2.1 (Int32.toNatClampNeg 0)) * (t7.2.1 (Int32.toNatClampNeg 0))) 12) (Option.bind (f_L_ones N ((upd t7.2.2.2.2 (Int32.toNatClampNeg (q1 - q1 / (t7.2.1 (Int32.toNatClampNeg 0)) * (t7.2.1 (Int32.toNatClampNeg 0)))) ((t7.2.2.2.2 (Int32.toNatClampNeg (q1 - q1 / (t7.2.1 (Int32.toNatClampNeg 0)) * (t7.2.1 (Int32.toNatClampNeg 0))))) ^^^ ((1 : Int32) <<< (((q1 / 12) - (q1 / 12) / (t7.2.1 (Int32.toNatClampNeg 0)) * (t7.2.1 (Int32.toNatClampNeg 0))) &&& 31)))) (Int32.toNatClampNeg (q1 - q1 / (t7.2.1 (Int32.toNatClampNeg 0)) * (t7.2.1 (Int32.toNatClampNeg 0)))))) (fun q113 => if q110.1 = q113 then (some (1, q110.2, t7.2.1, t7.2.2.1, t7.2.2.2.1, upd t7.2.2.2.2 (Int32.toNatClampNeg (q1 - q1 / (t7.2.1 (Int32.toNatClampNeg 0)) * (t7.2.1 (Int32.toNatClampNeg 0)))) ((t7.2.2.2.2 (Int32.toNatClampNeg (q1 - q1 / (t7.2.1 (Int32.toNatClampNeg 0)) * (t7.2.1 (Int32.toNatClampNeg 0))))) ^^^ ((1 : Int32) <<< (((q1 / 12) - (q1 / 12) / (t7.2.1 (Int32.toNatClampNeg 0)) * (t7.2.1 (Int32.toNatClampNeg 0))) &&& 31))))) else (some (0, q110.2, t7.2.1, t7.2.2.1, t7.2.2.2.1, upd t7.2.2.2.2 (Int32.toNatClampNeg (q1 - q1 / (t7.2.1 (Int32.toNatClampNeg 0)) * (t7.2.1 (Int32.toNatClampNeg 0)))) ((t7.2.2.2.2 (Int32.toNatClampNeg (q1 - q1 / (t7.2.1 (Int32.toNatClampNeg 0)) * (t7.2.1 (Int32.toNatClampNeg 0))))) ^^^ ((1 : Int32) <<< (((q1 / 12) - (q1 / 12) / (t7.2.1 (Int32.toNatClampNeg 0)) * (t7.2.1 (Int32.toNatClampNeg 0))) &&& 31))))))))))))))))))))))
set_option maxHeartbeats 4000000 in
set_option maxRecDepth 100000 in
theorem c_L_acts (l : Launch) (D : va_G) (cI cC cH : ClassId) (a_p0 : Nat) (ad : Nat → Nat) (a_p1 : Nat) (a_p2 : Nat) (a_p3 : Nat) (a_p4 : Nat) (N : Nat) (x5 : Int32) (zp0 : XS) (zp1 : Nat → Int32) (zp2 : Nat → Int32) (zp3 : Nat → Int32) (zp4 : Nat → Int32) (y : Int32 × XS × (Nat → Int32) × (Nat → Int32) × (Nat → Int32) × (Nat → Int32)) (h : f_L_acts N x5 zp0 zp1 zp2 zp3 zp4 = some y) : CTn l yL_acts cL_acts 12 .boolean 8 182 0 0 D (tyL cI cC cH) [.ref a_p0, .ref a_p1, .ref a_p2, .ref a_p3, .ref a_p4, .int x5] (wO cI cC cH a_p0 ad zp0 ++ [(a_p1, .inl (cI, 1, .inl zp1)), (a_p2, .inl (cI, 12, .inl zp2)), (a_p3, .inl (cI, 12, .inl zp3)), (a_p4, .inl (cI, 12, .inl zp4))]) (wO cI cC cH a_p0 ad y.2.1 ++ [(a_p1, .inl (cI, 1, .inl y.2.2.1)), (a_p2, .inl (cI, 12, .inl y.2.2.2.1)), (a_p3, .inl (cI, 12, .inl y.2.2.2.2.1)), (a_p4, .inl (cI, 12, .inl y.2.2.2.2.2))]) y.1 := by
  unfold f_L_acts at h
  refine ctN (by decide) (Nat.le_of_ble_eq_true rfl) ?_
  intro p e s m args below meth c A Q ls F hret hP hD hS hl
  have hx := F.1
  have hb := F.2.1
  have hown : s.vm.findClass RL = some m.cls := F.2.2.2.1
  have hts := F.2.2.2.2.1
  have hN := F.2.2.2.2.2.1
  have hK := F.2.2.2.2.2.2.1
  have hl : lv_has ls 12 [(0, .ref a_p0), (1, .ref a_p1), (2, .ref a_p2), (3, .ref a_p3), (4, .ref a_p4), (5, .int x5)] := hl
  have hA := F.2.2.2.2.2.2.2
  refine lv_iload hx hb dL_acts_0 (lv_at hl 5 rfl) ?_
  refine lv_iconst (v := 5) hx hb dL_acts_2 (by decide) ?_
  refine lv_ishr hx hb dL_acts_3 ?_
  refine lv_ldc (v := 10000000) hx hb hown (hts _ wd1_222) dL_acts_4 ?_
  obtain ⟨q1, hq2, h⟩ := bd h
  refine ks0N (rest := []) (As := [.int (x5 >>> (5 &&& 31)), .int 10000000]) F (c_L_low l D cI cC cH  N (x5 >>> (5 &&& 31)) 10000000 q1 hq2) yfL_low ⟨wd1_215, wd1_216⟩ hP hD hS ⟨Nat.le_of_ble_eq_true rfl, Nat.le_of_ble_eq_true rfl, (Nat.le_of_ble_eq_true rfl), (Nat.le_of_ble_eq_true rfl)⟩ rfl hl rfl (Nat.le_of_ble_eq_true rfl) dL_acts_6 (fun H locs hP hD hS => ?_)
  refine lv_istore (lv' := [(6, .int q1), (0, .ref a_p0), (1, .ref a_p1), (2, .ref a_p2), (3, .ref a_p3), (4, .ref a_p4), (5, .int x5)]) hx hb dL_acts_9 hl (by decide) rfl (fun ls hl => ?_)
  refine lv_iload hx hb dL_acts_11 (lv_at hl 6 rfl) ?_
  refine lv_bipush (v := 20) hx hb dL_acts_13 (by decide) ?_
  obtain ⟨q3, hq4, h⟩ := bd h
  refine ks0N (rest := []) (As := [.int x5, .int 20]) F (c_L_low l D cI cC cH  N x5 20 q3 hq4) yfL_low ⟨wd1_215, wd1_216⟩ hP hD hS ⟨Nat.le_of_ble_eq_true rfl, Nat.le_of_ble_eq_true rfl, (Nat.le_of_ble_eq_true rfl), (Nat.le_of_ble_eq_true rfl)⟩ rfl hl rfl (Nat.le_of_ble_eq_true rfl) dL_acts_15 (fun H locs hP hD hS => ?_)
  refine lv_istore (lv' := [(7, .int q3), (6, .int q1), (0, .ref a_p0), (1, .ref a_p1), (2, .ref a_p2), (3, .ref a_p3), (4, .ref a_p4), (5, .int x5)]) hx hb dL_acts_18 hl (by decide) rfl (fun ls hl => ?_)
  refine lv_iload hx hb dL_acts_20 (lv_at hl 0 rfl) ?_
  refine lv_iconst (v := 4) hx hb dL_acts_22 (by decide) ?_
  obtain ⟨q6, hb117, h⟩ := bd h
  have J8 : ∀ t7, q6 = .inr t7 → ∀ (ls : Array Slot) (H : Heap) (locs : List Loc), lv_has ls 12 [(0, .ref a_p0), (1, .ref a_p1), (2, .ref a_p2), (3, .ref a_p3), (4, .ref a_p4), (6, .int q1), (7, .int q3)] → va_P D vwCl (wO cI cC cH a_p0 ad t7.1 ++ [(a_p1, .inl (cI, 1, .inl t7.2.1)), (a_p2, .inl (cI, 12, .inl t7.2.2.1)), (a_p3, .inl (cI, 12, .inl t7.2.2.2.1)), (a_p4, .inl (cI, 12, .inl t7.2.2.2.2))]) H → va_D A (wO cI cC cH a_p0 ad t7.1 ++ [(a_p1, .inl (cI, 1, .inl t7.2.1)), (a_p2, .inl (cI, 12, .inl t7.2.2.1)), (a_p3, .inl (cI, 12, .inl t7.2.2.2.1)), (a_p4, .inl (cI, 12, .inl t7.2.2.2.2))]) → va_S A s.heap H locs → W p l e (rmn 8 182 0 0) s m args below meth c H locs 0 0 Q (F0 m 100 ls []) := by
    intro t7 e9 ls H locs hl hP hD hS
    rw [e9] at h
    have h := sm_r h
    refine lv_iload hx hb dL_acts_100 (lv_at hl 5 rfl) ?_
    refine lv_aload_n hx hb dL_acts_102 rfl (lv_at hl 1 rfl) ?_
    refine lv_iconst (v := 0) hx hb dL_acts_103 (by decide) ?_
    obtain ⟨g38, h⟩ := chk_s h
    refine va_iald hx hb hK hP 39 0 rfl rfl (gi_in g38) dL_acts_104 ?_
    obtain ⟨g39, h⟩ := chk_s h
    refine lv_irem hx hb dL_acts_105 (of_decide_eq_true g39) ?_
    refine lv_istore (lv' := [(8, .int (q1 - q1 / (t7.2.1 (Int32.toNatClampNeg 0)) * (t7.2.1 (Int32.toNatClampNeg 0)))), (0, .ref a_p0), (1, .ref a_p1), (2, .ref a_p2), (3, .ref a_p3), (4, .ref a_p4), (6, .int q1), (7, .int q3)]) hx hb dL_acts_106 hl (by decide) rfl (fun ls hl => ?_)
    refine lv_iload hx hb dL_acts_108 (lv_at hl 6 rfl) ?_
    refine lv_bipush (v := 12) hx hb dL_acts_110 (by decide) ?_
    refine lv_idiv hx hb dL_acts_112 (by decide) ?_
    refine lv_aload_n hx hb dL_acts_113 rfl (lv_at hl 2 rfl) ?_
    refine lv_iconst (v := 0) hx hb dL_acts_114 (by decide) ?_
    obtain ⟨g40, h⟩ := chk_s h
    refine va_iald hx hb hK hP 39 0 rfl rfl (gi_in g40) dL_acts_115 ?_
    obtain ⟨g41, h⟩ := chk_s h
    refine lv_irem hx hb dL_acts_116 (of_decide_eq_true g41) ?_
    refine lv_istore (lv' := [(9, .int ((q1 / 12) - (q1 / 12) / (t7.2.1 (Int32.toNatClampNeg 0)) * (t7.2.1 (Int32.toNatClampNeg 0)))), (8, .int (q1 - q1 / (t7.2.1 (Int32.toNatClampNeg 0)) * (t7.2.1 (Int32.toNatClampNeg 0)))), (0, .ref a_p0), (1, .ref a_p1), (2, .ref a_p2), (3, .ref a_p3), (4, .ref a_p4), (6, .int q1), (7, .int q3)]) hx hb dL_acts_117 hl (by decide) rfl (fun ls hl => ?_)
    refine lv_iload hx hb dL_acts_119 (lv_at hl 8 rfl) ?_
    refine lv_bipush (v := 13) hx hb dL_acts_121 (by decide) ?_
    refine lv_icmp_ge (tgt := 212) hx hb dL_acts_123 (by decide) (fun c42 => ?_) (fun c42 => ?_)
    · have h := itT h c42
      refine lv_iload hx hb dL_acts_212 (lv_at hl 8 rfl) ?_
      refine lv_bipush (v := 15) hx hb dL_acts_214 (by decide) ?_
      refine lv_icmp_ge (tgt := 257) hx hb dL_acts_216 (by decide) (fun c43 => ?_) (fun c43 => ?_)
      · have h := itT h c43
        refine lv_iload hx hb dL_acts_257 (lv_at hl 8 rfl) ?_
        refine lv_bipush (v := 18) hx hb dL_acts_259 (by decide) ?_
        refine lv_icmp_ge (tgt := 303) hx hb dL_acts_261 (by decide) (fun c44 => ?_) (fun c44 => ?_)
        · have h := itT h c44
          refine lv_iload hx hb dL_acts_303 (lv_at hl 8 rfl) ?_
          refine lv_bipush (v := 18) hx hb dL_acts_305 (by decide) ?_
          obtain ⟨q46, hb85, h⟩ := bd h
          have J48 : ∀ t47, q46 = .inr t47 → ∀ (ls : Array Slot) (H : Heap) (locs : List Loc), lv_has ls 12 [(0, .ref a_p0), (1, .ref a_p1), (2, .ref a_p2), (3, .ref a_p3), (4, .ref a_p4), (6, .int q1), (7, .int q3), (8, .int (q1 - q1 / (t7.2.1 (Int32.toNatClampNeg 0)) * (t7.2.1 (Int32.toNatClampNeg 0))))] → va_P D vwCl (wO cI cC cH a_p0 ad t7.1 ++ [(a_p1, .inl (cI, 1, .inl t7.2.1)), (a_p2, .inl (cI, 12, .inl t7.2.2.1)), (a_p3, .inl (cI, 12, .inl t7.2.2.2.1)), (a_p4, .inl (cI, 12, .inl t7.2.2.2.2))]) H → va_D A (wO cI cC cH a_p0 ad t7.1 ++ [(a_p1, .inl (cI, 1, .inl t7.2.1)), (a_p2, .inl (cI, 12, .inl t7.2.2.1)), (a_p3, .inl (cI, 12, .inl t7.2.2.2.1)), (a_p4, .inl (cI, 12, .inl t7.2.2.2.2))]) → va_S A s.heap H locs → W p l e (rmn 8 182 0 0) s m args below meth c H locs 0 0 Q (F0 m 319 ls []) := by
            intro t47 e9 ls H locs hl hP hD hS
            rw [e9] at h
            have h := sm_r h
            refine lv_iload hx hb dL_acts_319 (lv_at hl 6 rfl) ?_
            refine lv_bipush (v := 18) hx hb dL_acts_321 (by decide) ?_
            refine lv_icmp_ne (tgt := 464) hx hb dL_acts_323 (by decide) (fun c51 => ?_) (fun c51 => ?_)
            · have h := itF h c51
              refine lv_aload_n hx hb dL_acts_464 rfl (lv_at hl 0 rfl) ?_
              refine lv_aload_n hx hb dL_acts_465 rfl (lv_at hl 1 rfl) ?_
              refine lv_aload_n hx hb dL_acts_466 rfl (lv_at hl 2 rfl) ?_
              refine lv_aload_n hx hb dL_acts_467 rfl (lv_at hl 3 rfl) ?_
              refine lv_aload hx hb dL_acts_468 (lv_at hl 4 rfl) ?_
              refine lv_iload hx hb dL_acts_470 (lv_at hl 5 rfl) ?_
              obtain ⟨q52, hq53, h⟩ := bd h
              refine ksN (ws' := (wO cI cC cH a_p0 ad q52.2.1 ++ [(a_p1, .inl (cI, 1, .inl q52.2.2.1)), (a_p2, .inl (cI, 12, .inl q52.2.2.2.1)), (a_p3, .inl (cI, 12, .inl q52.2.2.2.2.1)), (a_p4, .inl (cI, 12, .inl q52.2.2.2.2.2))])) (wr := []) (rest := []) (As := [.ref a_p0, .ref a_p1, .ref a_p2, .ref a_p3, .ref a_p4, .int q1]) F (c_L_reads l D cI cC cH a_p0 ad a_p1 a_p2 a_p3 a_p4 N q1 t7.1 t7.2.1 t7.2.2.1 t7.2.2.2.1 t7.2.2.2.2 q52 hq53) yfL_reads ⟨wd2_33, wd2_34⟩ hP hD hS [0, 1, 2, 3, 4, 5, 6, 7, 8, 9, 10, 11, 12, 13, 14, 15, 16, 17, 18, 19, 20, 21, 22, 23, 24, 25, 26, 27, 28, 29, 30, 31, 32, 33, 34, 35, 36, 37, 38, 39, 40, 41, 42] [] [0, 1, 2, 3, 4, 5, 6, 7, 8, 9, 10, 11, 12, 13, 14, 15, 16, 17, 18, 19, 20, 21, 22, 23, 24, 25, 26, 27, 28, 29, 30, 31, 32, 33, 34, 35, 36, 37, 38, 39, 40, 41, 42] rfl rfl (by decide) (by decide) (by decide) rfl (by decide) ⟨Nat.le_of_ble_eq_true rfl, Nat.le_of_ble_eq_true rfl, (Nat.le_of_ble_eq_true rfl), (Nat.le_of_ble_eq_true rfl)⟩ rfl hl rfl (Nat.le_of_ble_eq_true rfl) dL_acts_472 (fun H locs hP hD hS => ?_)
              obtain ⟨g54, h⟩ := chk_s h
              obtain rfl := Option.some.inj h
              exact hret _ _ _ _ _ _ _ (isZ_n g54) (Nat.le_refl _) (Nat.le_refl _) rfl hP hD hS dL_acts_475
            · have h := itT h c51
              refine lv_aload_n hx hb dL_acts_326 rfl (lv_at hl 1 rfl) ?_
              refine lv_iconst (v := 0) hx hb dL_acts_327 (by decide) ?_
              refine lv_dup2_11 hx hb dL_acts_328 rfl rfl ?_
              obtain ⟨g55, h⟩ := chk_s h
              refine va_iald hx hb hK hP 39 0 rfl rfl (gi_in g55) dL_acts_329 ?_
              refine lv_iconst (v := 1) hx hb dL_acts_330 (by decide) ?_
              refine lv_isub hx hb dL_acts_331 ?_
              obtain ⟨g56, h⟩ := chk_s h
              refine va_iast hx hb hK hP hD hS 39 0 rfl rfl (gi_in g56) dL_acts_332 (fun H locs hP hD hS => ?_)
              have hP : va_P D vwCl (wO cI cC cH a_p0 ad t7.1 ++ [(a_p1, .inl (cI, 1, .inl (upd t7.2.1 (Int32.toNatClampNeg 0) ((t7.2.1 (Int32.toNatClampNeg 0)) - 1)))), (a_p2, .inl (cI, 12, .inl t7.2.2.1)), (a_p3, .inl (cI, 12, .inl t7.2.2.2.1)), (a_p4, .inl (cI, 12, .inl t7.2.2.2.2))]) H := hP
              have hD : va_D A (wO cI cC cH a_p0 ad t7.1 ++ [(a_p1, .inl (cI, 1, .inl (upd t7.2.1 (Int32.toNatClampNeg 0) ((t7.2.1 (Int32.toNatClampNeg 0)) - 1)))), (a_p2, .inl (cI, 12, .inl t7.2.2.1)), (a_p3, .inl (cI, 12, .inl t7.2.2.2.1)), (a_p4, .inl (cI, 12, .inl t7.2.2.2.2))]) := hD
              refine lv_iconst (v := 0) hx hb dL_acts_333 (by decide) ?_
              refine lv_istore (lv' := [(10, .int 0), (0, .ref a_p0), (1, .ref a_p1), (2, .ref a_p2), (3, .ref a_p3), (4, .ref a_p4), (6, .int q1), (7, .int q3), (8, .int (q1 - q1 / (t7.2.1 (Int32.toNatClampNeg 0)) * (t7.2.1 (Int32.toNatClampNeg 0))))]) hx hb dL_acts_334 hl (by decide) rfl (fun ls hl => ?_)
              have L_336 : ∀ (x8_336 : Int32) (zp0_336 : XS) (zp1_336 : Nat → Int32), ∀ (n_336 : Nat) (x10_336 : Int32) (zp2_336 : Nat → Int32) (zp3_336 : Nat → Int32) (zp4_336 : Nat → Int32) (q70 : ((Nat → Int32) × (Nat → Int32) × (Nat → Int32))), f_L_acts_L336 N x8_336 zp1_336 n_336 x10_336 zp2_336 zp3_336 zp4_336 = some q70 → (∀ (ls : Array Slot) (H : Heap) (locs : List Loc), lv_has ls 12 [(0, .ref a_p0), (1, .ref a_p1), (4, .ref a_p4), (8, .int x8_336)] → va_P D vwCl (wO cI cC cH a_p0 ad zp0_336 ++ [(a_p1, .inl (cI, 1, .inl zp1_336)), (a_p2, .inl (cI, 12, .inl q70.1)), (a_p3, .inl (cI, 12, .inl q70.2.1)), (a_p4, .inl (cI, 12, .inl q70.2.2))]) H → va_D A (wO cI cC cH a_p0 ad zp0_336 ++ [(a_p1, .inl (cI, 1, .inl zp1_336)), (a_p2, .inl (cI, 12, .inl q70.1)), (a_p3, .inl (cI, 12, .inl q70.2.1)), (a_p4, .inl (cI, 12, .inl q70.2.2))]) → va_S A s.heap H locs → W p l e (rmn 8 182 0 0) s m args below meth c H locs 0 0 Q (F0 m 394 ls [])) → ∀ (ls : Array Slot) (H : Heap) (locs : List Loc), lv_has ls 12 [(0, .ref a_p0), (1, .ref a_p1), (2, .ref a_p2), (3, .ref a_p3), (4, .ref a_p4), (8, .int x8_336), (10, .int x10_336)] → va_P D vwCl (wO cI cC cH a_p0 ad zp0_336 ++ [(a_p1, .inl (cI, 1, .inl zp1_336)), (a_p2, .inl (cI, 12, .inl zp2_336)), (a_p3, .inl (cI, 12, .inl zp3_336)), (a_p4, .inl (cI, 12, .inl zp4_336))]) H → va_D A (wO cI cC cH a_p0 ad zp0_336 ++ [(a_p1, .inl (cI, 1, .inl zp1_336)), (a_p2, .inl (cI, 12, .inl zp2_336)), (a_p3, .inl (cI, 12, .inl zp3_336)), (a_p4, .inl (cI, 12, .inl zp4_336))]) → va_S A s.heap H locs → W p l e (rmn 8 182 0 0) s m args below meth c H locs 0 0 Q (F0 m 336 ls []) := by
                intro x8_336 zp0_336 zp1_336 n_336
                induction n_336 with
                | zero => intro x10_336 zp2_336 zp3_336 zp4_336 q70 h; exact no_s h
                | succ n_336 ih_336 =>
                  intro x10_336 zp2_336 zp3_336 zp4_336 q70 h J_336 ls H locs hl hP hD hS
                  rw [f_L_acts_L336] at h
                  refine lv_iload hx hb dL_acts_336 (lv_at hl 6 rfl) ?_
                  refine lv_aload_n hx hb dL_acts_338 rfl (lv_at hl 1 rfl) ?_
                  refine lv_iconst (v := 0) hx hb dL_acts_339 (by decide) ?_
                  obtain ⟨g57, h⟩ := chk_s h
                  refine va_iald hx hb hK hP 39 0 rfl rfl (gi_in g57) dL_acts_340 ?_
                  refine lv_icmp_ge (tgt := 394) hx hb dL_acts_341 (by decide) (fun c58 => ?_) (fun c58 => ?_)
                  · have h := itT h c58
                    obtain rfl := Option.some.inj h
                    exact J_336 _ _ _ (lv_sub hl [0, 1, 4, 5] rfl) hP hD hS
                  · have h := itF h c58
                    refine lv_iload hx hb dL_acts_344 (lv_at hl 6 rfl) ?_
                    refine lv_iload hx hb dL_acts_346 (lv_at hl 5 rfl) ?_
                    obtain ⟨q60, hb69, h⟩ := bd h
                    have J61 : ∀ (ls : Array Slot) (H : Heap) (locs : List Loc), lv_has ls 12 [(0, .ref a_p0), (1, .ref a_p1), (2, .ref a_p2), (3, .ref a_p3), (4, .ref a_p4), (8, .int x8_336), (10, .int x10_336)] → va_P D vwCl (wO cI cC cH a_p0 ad zp0_336 ++ [(a_p1, .inl (cI, 1, .inl zp1_336)), (a_p2, .inl (cI, 12, .inl zp2_336)), (a_p3, .inl (cI, 12, .inl zp3_336)), (a_p4, .inl (cI, 12, .inl zp4_336))]) H → va_D A (wO cI cC cH a_p0 ad zp0_336 ++ [(a_p1, .inl (cI, 1, .inl zp1_336)), (a_p2, .inl (cI, 12, .inl zp2_336)), (a_p3, .inl (cI, 12, .inl zp3_336)), (a_p4, .inl (cI, 12, .inl zp4_336))]) → va_S A s.heap H locs → W p l e (rmn 8 182 0 0) s m args below meth c H locs 0 0 Q (F0 m 360 ls [.int q60]) := by
                      intro ls H locs hl hP hD hS
                      refine lv_istore (lv' := [(11, .int q60), (0, .ref a_p0), (1, .ref a_p1), (2, .ref a_p2), (3, .ref a_p3), (4, .ref a_p4), (8, .int x8_336), (10, .int x10_336)]) hx hb dL_acts_360 hl (by decide) rfl (fun ls hl => ?_)
                      refine lv_aload_n hx hb dL_acts_362 rfl (lv_at hl 3 rfl) ?_
                      refine lv_iload hx hb dL_acts_363 (lv_at hl 7 rfl) ?_
                      refine lv_aload_n hx hb dL_acts_365 rfl (lv_at hl 3 rfl) ?_
                      refine lv_iload hx hb dL_acts_366 (lv_at hl 0 rfl) ?_
                      obtain ⟨g63, h⟩ := chk_s h
                      refine va_iald hx hb hK hP 40 0 rfl rfl (gi_in g63) dL_acts_368 ?_
                      obtain ⟨g64, h⟩ := chk_s h
                      refine va_iast hx hb hK hP hD hS 40 0 rfl rfl (gi_in g64) dL_acts_369 (fun H locs hP hD hS => ?_)
                      have hP : va_P D vwCl (wO cI cC cH a_p0 ad zp0_336 ++ [(a_p1, .inl (cI, 1, .inl zp1_336)), (a_p2, .inl (cI, 12, .inl (upd zp2_336 (Int32.toNatClampNeg x10_336) (zp2_336 (Int32.toNatClampNeg q60))))), (a_p3, .inl (cI, 12, .inl zp3_336)), (a_p4, .inl (cI, 12, .inl zp4_336))]) H := hP
                      have hD : va_D A (wO cI cC cH a_p0 ad zp0_336 ++ [(a_p1, .inl (cI, 1, .inl zp1_336)), (a_p2, .inl (cI, 12, .inl (upd zp2_336 (Int32.toNatClampNeg x10_336) (zp2_336 (Int32.toNatClampNeg q60))))), (a_p3, .inl (cI, 12, .inl zp3_336)), (a_p4, .inl (cI, 12, .inl zp4_336))]) := hD
                      refine lv_aload_n hx hb dL_acts_370 rfl (lv_at hl 4 rfl) ?_
                      refine lv_iload hx hb dL_acts_371 (lv_at hl 7 rfl) ?_
                      refine lv_aload_n hx hb dL_acts_373 rfl (lv_at hl 4 rfl) ?_
                      refine lv_iload hx hb dL_acts_374 (lv_at hl 0 rfl) ?_
                      obtain ⟨g65, h⟩ := chk_s h
                      refine va_iald hx hb hK hP 41 0 rfl rfl (gi_in g65) dL_acts_376 ?_
                      obtain ⟨g66, h⟩ := chk_s h
                      refine va_iast hx hb hK hP hD hS 41 0 rfl rfl (gi_in g66) dL_acts_377 (fun H locs hP hD hS => ?_)
                      have hP : va_P D vwCl (wO cI cC cH a_p0 ad zp0_336 ++ [(a_p1, .inl (cI, 1, .inl zp1_336)), (a_p2, .inl (cI, 12, .inl (upd zp2_336 (Int32.toNatClampNeg x10_336) (zp2_336 (Int32.toNatClampNeg q60))))), (a_p3, .inl (cI, 12, .inl (upd zp3_336 (Int32.toNatClampNeg x10_336) (zp3_336 (Int32.toNatClampNeg q60))))), (a_p4, .inl (cI, 12, .inl zp4_336))]) H := hP
                      have hD : va_D A (wO cI cC cH a_p0 ad zp0_336 ++ [(a_p1, .inl (cI, 1, .inl zp1_336)), (a_p2, .inl (cI, 12, .inl (upd zp2_336 (Int32.toNatClampNeg x10_336) (zp2_336 (Int32.toNatClampNeg q60))))), (a_p3, .inl (cI, 12, .inl (upd zp3_336 (Int32.toNatClampNeg x10_336) (zp3_336 (Int32.toNatClampNeg q60))))), (a_p4, .inl (cI, 12, .inl zp4_336))]) := hD
                      refine lv_aload hx hb dL_acts_378 (lv_at hl 5 rfl) ?_
                      refine lv_iload hx hb dL_acts_380 (lv_at hl 7 rfl) ?_
                      refine lv_aload hx hb dL_acts_382 (lv_at hl 5 rfl) ?_
                      refine lv_iload hx hb dL_acts_384 (lv_at hl 0 rfl) ?_
                      obtain ⟨g67, h⟩ := chk_s h
                      refine va_iald hx hb hK hP 42 0 rfl rfl (gi_in g67) dL_acts_386 ?_
                      obtain ⟨g68, h⟩ := chk_s h
                      refine va_iast hx hb hK hP hD hS 42 0 rfl rfl (gi_in g68) dL_acts_387 (fun H locs hP hD hS => ?_)
                      have hP : va_P D vwCl (wO cI cC cH a_p0 ad zp0_336 ++ [(a_p1, .inl (cI, 1, .inl zp1_336)), (a_p2, .inl (cI, 12, .inl (upd zp2_336 (Int32.toNatClampNeg x10_336) (zp2_336 (Int32.toNatClampNeg q60))))), (a_p3, .inl (cI, 12, .inl (upd zp3_336 (Int32.toNatClampNeg x10_336) (zp3_336 (Int32.toNatClampNeg q60))))), (a_p4, .inl (cI, 12, .inl (upd zp4_336 (Int32.toNatClampNeg x10_336) (zp4_336 (Int32.toNatClampNeg q60)))))]) H := hP
                      have hD : va_D A (wO cI cC cH a_p0 ad zp0_336 ++ [(a_p1, .inl (cI, 1, .inl zp1_336)), (a_p2, .inl (cI, 12, .inl (upd zp2_336 (Int32.toNatClampNeg x10_336) (zp2_336 (Int32.toNatClampNeg q60))))), (a_p3, .inl (cI, 12, .inl (upd zp3_336 (Int32.toNatClampNeg x10_336) (zp3_336 (Int32.toNatClampNeg q60))))), (a_p4, .inl (cI, 12, .inl (upd zp4_336 (Int32.toNatClampNeg x10_336) (zp4_336 (Int32.toNatClampNeg q60)))))]) := hD
                      refine lv_iinc (v := x10_336 + 1) (lv' := [(10, .int (x10_336 + 1)), (11, .int q60), (0, .ref a_p0), (1, .ref a_p1), (2, .ref a_p2), (3, .ref a_p3), (4, .ref a_p4), (8, .int x8_336)]) hx hb dL_acts_388 hl (k := 7) rfl rfl (by decide) rfl (fun ls hl => ?_)
                      refine lv_goto (tgt := 336) hx hb dL_acts_391 (by decide) ?_
                      exact ih_336 (x10_336 + 1) (upd zp2_336 (Int32.toNatClampNeg x10_336) (zp2_336 (Int32.toNatClampNeg q60))) (upd zp3_336 (Int32.toNatClampNeg x10_336) (zp3_336 (Int32.toNatClampNeg q60))) (upd zp4_336 (Int32.toNatClampNeg x10_336) (zp4_336 (Int32.toNatClampNeg q60))) _ h J_336 _ _ _ (lv_sub hl [2, 3, 4, 5, 6, 7, 0] rfl) hP hD hS
                    clear h
                    have h := hb69
                    clear hb69
                    refine lv_icmp_ge (tgt := 356) hx hb dL_acts_348 (by decide) (fun c59 => ?_) (fun c59 => ?_)
                    · have h := itT h c59
                      refine lv_iload hx hb dL_acts_356 (lv_at hl 6 rfl) ?_
                      refine lv_iconst (v := 1) hx hb dL_acts_358 (by decide) ?_
                      refine lv_iadd hx hb dL_acts_359 ?_
                      obtain rfl := Option.some.inj h
                      exact J61 _ _ _ (lv_sub hl [0, 1, 2, 3, 4, 5, 6] rfl) hP hD hS
                    · have h := itF h c59
                      refine lv_iload hx hb dL_acts_351 (lv_at hl 6 rfl) ?_
                      refine lv_goto (tgt := 360) hx hb dL_acts_353 (by decide) ?_
                      obtain rfl := Option.some.inj h
                      exact J61 _ _ _ (lv_sub hl [0, 1, 2, 3, 4, 5, 6] rfl) hP hD hS
              obtain ⟨q71, hb84, h⟩ := bd h
              refine L_336 (q1 - q1 / (t7.2.1 (Int32.toNatClampNeg 0)) * (t7.2.1 (Int32.toNatClampNeg 0))) t7.1 (upd t7.2.1 (Int32.toNatClampNeg 0) ((t7.2.1 (Int32.toNatClampNeg 0)) - 1)) N 0 t7.2.2.1 t7.2.2.2.1 t7.2.2.2.2 q71 hb84 ?_ _ _ _ (lv_sub hl [1, 2, 3, 4, 5, 8, 0] rfl) hP hD hS
              intro ls H locs hl hP hD hS
              refine lv_iconst (v := 0) hx hb dL_acts_394 (by decide) ?_
              refine lv_istore (lv' := [(10, .int 0), (0, .ref a_p0), (1, .ref a_p1), (4, .ref a_p4), (8, .int (q1 - q1 / (t7.2.1 (Int32.toNatClampNeg 0)) * (t7.2.1 (Int32.toNatClampNeg 0))))]) hx hb dL_acts_395 hl (by decide) rfl (fun ls hl => ?_)
              have L_397 : ∀ (x8_397 : Int32) (zp0_397 : XS) (zp1_397 : Nat → Int32) (zp2_397 : Nat → Int32) (zp3_397 : Nat → Int32), ∀ (n_397 : Nat) (x10_397 : Int32) (zp4_397 : Nat → Int32) (q77 : ((Nat → Int32))), f_L_acts_L397 N x8_397 zp1_397 n_397 x10_397 zp4_397 = some q77 → (∀ (ls : Array Slot) (H : Heap) (locs : List Loc), lv_has ls 12 [(0, .ref a_p0), (1, .ref a_p1), (8, .int x8_397)] → va_P D vwCl (wO cI cC cH a_p0 ad zp0_397 ++ [(a_p1, .inl (cI, 1, .inl zp1_397)), (a_p2, .inl (cI, 12, .inl zp2_397)), (a_p3, .inl (cI, 12, .inl zp3_397)), (a_p4, .inl (cI, 12, .inl q77))]) H → va_D A (wO cI cC cH a_p0 ad zp0_397 ++ [(a_p1, .inl (cI, 1, .inl zp1_397)), (a_p2, .inl (cI, 12, .inl zp2_397)), (a_p3, .inl (cI, 12, .inl zp3_397)), (a_p4, .inl (cI, 12, .inl q77))]) → va_S A s.heap H locs → W p l e (rmn 8 182 0 0) s m args below meth c H locs 0 0 Q (F0 m 446 ls [])) → ∀ (ls : Array Slot) (H : Heap) (locs : List Loc), lv_has ls 12 [(0, .ref a_p0), (1, .ref a_p1), (4, .ref a_p4), (8, .int x8_397), (10, .int x10_397)] → va_P D vwCl (wO cI cC cH a_p0 ad zp0_397 ++ [(a_p1, .inl (cI, 1, .inl zp1_397)), (a_p2, .inl (cI, 12, .inl zp2_397)), (a_p3, .inl (cI, 12, .inl zp3_397)), (a_p4, .inl (cI, 12, .inl zp4_397))]) H → va_D A (wO cI cC cH a_p0 ad zp0_397 ++ [(a_p1, .inl (cI, 1, .inl zp1_397)), (a_p2, .inl (cI, 12, .inl zp2_397)), (a_p3, .inl (cI, 12, .inl zp3_397)), (a_p4, .inl (cI, 12, .inl zp4_397))]) → va_S A s.heap H locs → W p l e (rmn 8 182 0 0) s m args below meth c H locs 0 0 Q (F0 m 397 ls []) := by
                intro x8_397 zp0_397 zp1_397 zp2_397 zp3_397 n_397
                induction n_397 with
                | zero => intro x10_397 zp4_397 q77 h; exact no_s h
                | succ n_397 ih_397 =>
                  intro x10_397 zp4_397 q77 h J_397 ls H locs hl hP hD hS
                  rw [f_L_acts_L397] at h
                  refine lv_iload hx hb dL_acts_397 (lv_at hl 4 rfl) ?_
                  refine lv_aload_n hx hb dL_acts_399 rfl (lv_at hl 1 rfl) ?_
                  refine lv_iconst (v := 0) hx hb dL_acts_400 (by decide) ?_
                  obtain ⟨g72, h⟩ := chk_s h
                  refine va_iald hx hb hK hP 39 0 rfl rfl (gi_in g72) dL_acts_401 ?_
                  refine lv_icmp_ge (tgt := 446) hx hb dL_acts_402 (by decide) (fun c73 => ?_) (fun c73 => ?_)
                  · have h := itT h c73
                    obtain rfl := Option.some.inj h
                    exact J_397 _ _ _ (lv_sub hl [0, 1, 3] rfl) hP hD hS
                  · have h := itF h c73
                    refine lv_aload hx hb dL_acts_405 (lv_at hl 2 rfl) ?_
                    refine lv_iload hx hb dL_acts_407 (lv_at hl 4 rfl) ?_
                    obtain ⟨g74, h⟩ := chk_s h
                    refine va_iald hx hb hK hP 42 0 rfl rfl (gi_in g74) dL_acts_409 ?_
                    refine lv_iload hx hb dL_acts_410 (lv_at hl 3 rfl) ?_
                    refine lv_iconst (v := 1) hx hb dL_acts_412 (by decide) ?_
                    refine lv_iadd hx hb dL_acts_413 ?_
                    refine lv_ishr hx hb dL_acts_414 ?_
                    refine lv_istore (lv' := [(11, .int ((zp4_397 (Int32.toNatClampNeg x10_397)) >>> ((x8_397 + 1) &&& 31))), (0, .ref a_p0), (1, .ref a_p1), (4, .ref a_p4), (8, .int x8_397), (10, .int x10_397)]) hx hb dL_acts_415 hl (by decide) rfl (fun ls hl => ?_)
                    refine lv_aload hx hb dL_acts_417 (lv_at hl 3 rfl) ?_
                    refine lv_iload hx hb dL_acts_419 (lv_at hl 5 rfl) ?_
                    refine lv_aload hx hb dL_acts_421 (lv_at hl 3 rfl) ?_
                    refine lv_iload hx hb dL_acts_423 (lv_at hl 5 rfl) ?_
                    obtain ⟨g75, h⟩ := chk_s h
                    refine va_iald hx hb hK hP 42 0 rfl rfl (gi_in g75) dL_acts_425 ?_
                    refine lv_iconst (v := 1) hx hb dL_acts_426 (by decide) ?_
                    refine lv_iload hx hb dL_acts_427 (lv_at hl 4 rfl) ?_
                    refine lv_ishl hx hb dL_acts_429 ?_
                    refine lv_iconst (v := 1) hx hb dL_acts_430 (by decide) ?_
                    refine lv_isub hx hb dL_acts_431 ?_
                    refine lv_iand hx hb dL_acts_432 ?_
                    refine lv_iload hx hb dL_acts_433 (lv_at hl 0 rfl) ?_
                    refine lv_iload hx hb dL_acts_435 (lv_at hl 4 rfl) ?_
                    refine lv_ishl hx hb dL_acts_437 ?_
                    refine lv_ior hx hb dL_acts_438 ?_
                    obtain ⟨g76, h⟩ := chk_s h
                    refine va_iast hx hb hK hP hD hS 42 0 rfl rfl (gi_in g76) dL_acts_439 (fun H locs hP hD hS => ?_)
                    have hP : va_P D vwCl (wO cI cC cH a_p0 ad zp0_397 ++ [(a_p1, .inl (cI, 1, .inl zp1_397)), (a_p2, .inl (cI, 12, .inl zp2_397)), (a_p3, .inl (cI, 12, .inl zp3_397)), (a_p4, .inl (cI, 12, .inl (upd zp4_397 (Int32.toNatClampNeg x10_397) (((zp4_397 (Int32.toNatClampNeg x10_397)) &&& (((1 : Int32) <<< (x8_397 &&& 31)) - 1)) ||| (((zp4_397 (Int32.toNatClampNeg x10_397)) >>> ((x8_397 + 1) &&& 31)) <<< (x8_397 &&& 31))))))]) H := hP
                    have hD : va_D A (wO cI cC cH a_p0 ad zp0_397 ++ [(a_p1, .inl (cI, 1, .inl zp1_397)), (a_p2, .inl (cI, 12, .inl zp2_397)), (a_p3, .inl (cI, 12, .inl zp3_397)), (a_p4, .inl (cI, 12, .inl (upd zp4_397 (Int32.toNatClampNeg x10_397) (((zp4_397 (Int32.toNatClampNeg x10_397)) &&& (((1 : Int32) <<< (x8_397 &&& 31)) - 1)) ||| (((zp4_397 (Int32.toNatClampNeg x10_397)) >>> ((x8_397 + 1) &&& 31)) <<< (x8_397 &&& 31))))))]) := hD
                    refine lv_iinc (v := x10_397 + 1) (lv' := [(10, .int (x10_397 + 1)), (11, .int ((zp4_397 (Int32.toNatClampNeg x10_397)) >>> ((x8_397 + 1) &&& 31))), (0, .ref a_p0), (1, .ref a_p1), (4, .ref a_p4), (8, .int x8_397)]) hx hb dL_acts_440 hl (k := 5) rfl rfl (by decide) rfl (fun ls hl => ?_)
                    refine lv_goto (tgt := 397) hx hb dL_acts_443 (by decide) ?_
                    exact ih_397 (x10_397 + 1) (upd zp4_397 (Int32.toNatClampNeg x10_397) (((zp4_397 (Int32.toNatClampNeg x10_397)) &&& (((1 : Int32) <<< (x8_397 &&& 31)) - 1)) ||| (((zp4_397 (Int32.toNatClampNeg x10_397)) >>> ((x8_397 + 1) &&& 31)) <<< (x8_397 &&& 31)))) _ h J_397 _ _ _ (lv_sub hl [2, 3, 4, 5, 0] rfl) hP hD hS
              obtain ⟨q78, hb83, h⟩ := bd h
              refine L_397 (q1 - q1 / (t7.2.1 (Int32.toNatClampNeg 0)) * (t7.2.1 (Int32.toNatClampNeg 0))) t7.1 (upd t7.2.1 (Int32.toNatClampNeg 0) ((t7.2.1 (Int32.toNatClampNeg 0)) - 1)) q71.1 q71.2.1 N 0 q71.2.2 q78 hb83 ?_ _ _ _ (lv_sub hl [1, 2, 3, 4, 0] rfl) hP hD hS
              intro ls H locs hl hP hD hS
              refine lv_aload_n hx hb dL_acts_446 rfl (lv_at hl 0 rfl) ?_
              refine lv_iload hx hb dL_acts_447 (lv_at hl 2 rfl) ?_
              obtain ⟨q79, hq80, h⟩ := bd h
              refine lx4_drop l D cI cC cH a_p0 ad N (q1 - q1 / (t7.2.1 (Int32.toNatClampNeg 0)) * (t7.2.1 (Int32.toNatClampNeg 0))) t7.1 q79 [] hq80 F hP hD hS hl ⟨Nat.le_of_ble_eq_true rfl, Nat.le_of_ble_eq_true rfl, (Nat.le_of_ble_eq_true rfl), (Nat.le_of_ble_eq_true rfl)⟩ (Nat.le_of_ble_eq_true rfl) dL_acts_449 (fun H locs hP hD hS => ?_)
              refine lv_aload_n hx hb dL_acts_452 rfl (lv_at hl 1 rfl) ?_
              refine lv_iconst (v := 0) hx hb dL_acts_453 (by decide) ?_
              obtain ⟨g81, h⟩ := chk_s h
              refine va_iald hx hb hK hP 39 0 rfl rfl (gi_in g81) dL_acts_454 ?_
              refine lv_icmp_ne (tgt := 462) hx hb dL_acts_455 (by decide) (fun c82 => ?_) (fun c82 => ?_)
              · have h := itF h c82
                refine lv_iconst (v := 0) hx hb dL_acts_462 (by decide) ?_
                obtain rfl := Option.some.inj h
                exact hret _ _ _ _ _ _ _ rfl (Nat.le_refl _) (Nat.le_refl _) rfl hP hD hS dL_acts_463
              · have h := itT h c82
                refine lv_iconst (v := 1) hx hb dL_acts_458 (by decide) ?_
                refine lv_goto (tgt := 463) hx hb dL_acts_459 (by decide) ?_
                obtain rfl := Option.some.inj h
                exact hret _ _ _ _ _ _ _ rfl (Nat.le_refl _) (Nat.le_refl _) rfl hP hD hS dL_acts_463
          have hr49 : ∀ r9, q46 = .inl r9 → r9 = y := by
            intro r9 e9
            rw [e9] at h
            exact Option.some.inj h
          clear h
          have h := hb85
          clear hb85
          refine lv_icmp_ne (tgt := 319) hx hb dL_acts_307 (by decide) (fun c45 => ?_) (fun c45 => ?_)
          · have h := itF h c45
            obtain rfl := Option.some.inj h
            exact J48 _ rfl _ _ _ (lv_sub hl [2, 3, 4, 5, 6, 7, 8, 1] rfl) hP hD hS
          · have h := itT h c45
            refine lv_iload hx hb dL_acts_310 (lv_at hl 7 rfl) ?_
            refine lv_iconst (v := 3) hx hb dL_acts_312 (by decide) ?_
            refine lv_irem hx hb dL_acts_313 (by decide) ?_
            refine lv_if_le (tgt := 319) hx hb dL_acts_314 (by decide) (fun c50 => ?_) (fun c50 => ?_)
            · have h := itT h c50
              obtain rfl := Option.some.inj h
              exact J48 _ rfl _ _ _ (lv_sub hl [2, 3, 4, 5, 6, 7, 8, 1] rfl) hP hD hS
            · have h := itF h c50
              refine lv_iconst (v := 1) hx hb dL_acts_317 (by decide) ?_
              obtain rfl := Option.some.inj h
              obtain rfl := hr49 _ rfl
              exact hret _ _ _ _ _ _ _ rfl (Nat.le_refl _) (Nat.le_refl _) rfl hP hD hS dL_acts_318
        · have h := itF h c44
          refine lv_aload_n hx hb dL_acts_264 rfl (lv_at hl 5 rfl) ?_
          refine lv_iload hx hb dL_acts_265 (lv_at hl 1 rfl) ?_
          obtain ⟨g86, h⟩ := chk_s h
          refine va_iald hx hb hK hP 41 0 rfl rfl (gi_in g86) dL_acts_267 ?_
          refine lv_istore (lv' := [(10, .int (t7.2.2.2.1 (Int32.toNatClampNeg (q1 - q1 / (t7.2.1 (Int32.toNatClampNeg 0)) * (t7.2.1 (Int32.toNatClampNeg 0)))))), (9, .int ((q1 / 12) - (q1 / 12) / (t7.2.1 (Int32.toNatClampNeg 0)) * (t7.2.1 (Int32.toNatClampNeg 0)))), (8, .int (q1 - q1 / (t7.2.1 (Int32.toNatClampNeg 0)) * (t7.2.1 (Int32.toNatClampNeg 0)))), (0, .ref a_p0), (1, .ref a_p1), (2, .ref a_p2), (3, .ref a_p3), (4, .ref a_p4), (6, .int q1), (7, .int q3)]) hx hb dL_acts_268 hl (by decide) rfl (fun ls hl => ?_)
          refine lv_aload_n hx hb dL_acts_270 rfl (lv_at hl 6 rfl) ?_
          refine lv_iload hx hb dL_acts_271 (lv_at hl 2 rfl) ?_
          refine lv_iload hx hb dL_acts_273 (lv_at hl 8 rfl) ?_
          refine lv_bipush (v := 12) hx hb dL_acts_275 (by decide) ?_
          refine lv_idiv hx hb dL_acts_277 (by decide) ?_
          refine lv_bipush (v := 6) hx hb dL_acts_278 (by decide) ?_
          refine lv_irem hx hb dL_acts_280 (by decide) ?_
          obtain ⟨g87, h⟩ := chk_s h
          refine va_iast hx hb hK hP hD hS 41 0 rfl rfl (gi_in g87) dL_acts_281 (fun H locs hP hD hS => ?_)
          have hP : va_P D vwCl (wO cI cC cH a_p0 ad t7.1 ++ [(a_p1, .inl (cI, 1, .inl t7.2.1)), (a_p2, .inl (cI, 12, .inl t7.2.2.1)), (a_p3, .inl (cI, 12, .inl (upd t7.2.2.2.1 (Int32.toNatClampNeg (q1 - q1 / (t7.2.1 (Int32.toNatClampNeg 0)) * (t7.2.1 (Int32.toNatClampNeg 0)))) ((q1 / 12) - (q1 / 12) / 6 * 6)))), (a_p4, .inl (cI, 12, .inl t7.2.2.2.2))]) H := hP
          have hD : va_D A (wO cI cC cH a_p0 ad t7.1 ++ [(a_p1, .inl (cI, 1, .inl t7.2.1)), (a_p2, .inl (cI, 12, .inl t7.2.2.1)), (a_p3, .inl (cI, 12, .inl (upd t7.2.2.2.1 (Int32.toNatClampNeg (q1 - q1 / (t7.2.1 (Int32.toNatClampNeg 0)) * (t7.2.1 (Int32.toNatClampNeg 0)))) ((q1 / 12) - (q1 / 12) / 6 * 6)))), (a_p4, .inl (cI, 12, .inl t7.2.2.2.2))]) := hD
          refine lv_aload_n hx hb dL_acts_282 rfl (lv_at hl 3 rfl) ?_
          refine lv_iload hx hb dL_acts_283 (lv_at hl 2 rfl) ?_
          refine lv_aload_n hx hb dL_acts_285 rfl (lv_at hl 6 rfl) ?_
          refine lv_iload hx hb dL_acts_286 (lv_at hl 2 rfl) ?_
          obtain ⟨g88, h⟩ := chk_s h
          refine va_iald hx hb hK hP 41 0 rfl rfl (gi_in g88) dL_acts_288 ?_
          obtain ⟨q89, hq90, h⟩ := bd h
          refine lx4_rank l D cI cC cH a_p0 ad N (q1 - q1 / (t7.2.1 (Int32.toNatClampNeg 0)) * (t7.2.1 (Int32.toNatClampNeg 0))) ((upd t7.2.2.2.1 (Int32.toNatClampNeg (q1 - q1 / (t7.2.1 (Int32.toNatClampNeg 0)) * (t7.2.1 (Int32.toNatClampNeg 0)))) ((q1 / 12) - (q1 / 12) / 6 * 6)) (Int32.toNatClampNeg (q1 - q1 / (t7.2.1 (Int32.toNatClampNeg 0)) * (t7.2.1 (Int32.toNatClampNeg 0))))) t7.1 q89 [] hq90 F hP hD hS hl ⟨Nat.le_of_ble_eq_true rfl, Nat.le_of_ble_eq_true rfl, (Nat.le_of_ble_eq_true rfl), (Nat.le_of_ble_eq_true rfl)⟩ (Nat.le_of_ble_eq_true rfl) dL_acts_289 (fun H locs hP hD hS => ?_)
          refine lv_iload hx hb dL_acts_292 (lv_at hl 0 rfl) ?_
          refine lv_icmp_ne (tgt := 301) hx hb dL_acts_294 (by decide) (fun c91 => ?_) (fun c91 => ?_)
          · have h := itF h c91
            refine lv_iconst (v := 0) hx hb dL_acts_301 (by decide) ?_
            obtain rfl := Option.some.inj h
            exact hret _ _ _ _ _ _ _ rfl (Nat.le_refl _) (Nat.le_refl _) rfl hP hD hS dL_acts_302
          · have h := itT h c91
            refine lv_iconst (v := 1) hx hb dL_acts_297 (by decide) ?_
            refine lv_goto (tgt := 302) hx hb dL_acts_298 (by decide) ?_
            obtain rfl := Option.some.inj h
            exact hret _ _ _ _ _ _ _ rfl (Nat.le_refl _) (Nat.le_refl _) rfl hP hD hS dL_acts_302
      · have h := itF h c43
        refine lv_aload_n hx hb dL_acts_219 rfl (lv_at hl 4 rfl) ?_
        refine lv_iload hx hb dL_acts_220 (lv_at hl 1 rfl) ?_
        obtain ⟨g92, h⟩ := chk_s h
        refine va_iald hx hb hK hP 40 0 rfl rfl (gi_in g92) dL_acts_222 ?_
        refine lv_istore (lv' := [(10, .int (t7.2.2.1 (Int32.toNatClampNeg (q1 - q1 / (t7.2.1 (Int32.toNatClampNeg 0)) * (t7.2.1 (Int32.toNatClampNeg 0)))))), (9, .int ((q1 / 12) - (q1 / 12) / (t7.2.1 (Int32.toNatClampNeg 0)) * (t7.2.1 (Int32.toNatClampNeg 0)))), (8, .int (q1 - q1 / (t7.2.1 (Int32.toNatClampNeg 0)) * (t7.2.1 (Int32.toNatClampNeg 0)))), (0, .ref a_p0), (1, .ref a_p1), (2, .ref a_p2), (3, .ref a_p3), (4, .ref a_p4), (6, .int q1), (7, .int q3)]) hx hb dL_acts_223 hl (by decide) rfl (fun ls hl => ?_)
        refine lv_aload_n hx hb dL_acts_225 rfl (lv_at hl 5 rfl) ?_
        refine lv_iload hx hb dL_acts_226 (lv_at hl 2 rfl) ?_
        refine lv_iload hx hb dL_acts_228 (lv_at hl 8 rfl) ?_
        refine lv_bipush (v := 12) hx hb dL_acts_230 (by decide) ?_
        refine lv_idiv hx hb dL_acts_232 (by decide) ?_
        refine lv_iconst (v := 2) hx hb dL_acts_233 (by decide) ?_
        refine lv_irem hx hb dL_acts_234 (by decide) ?_
        obtain ⟨g93, h⟩ := chk_s h
        refine va_iast hx hb hK hP hD hS 40 0 rfl rfl (gi_in g93) dL_acts_235 (fun H locs hP hD hS => ?_)
        have hP : va_P D vwCl (wO cI cC cH a_p0 ad t7.1 ++ [(a_p1, .inl (cI, 1, .inl t7.2.1)), (a_p2, .inl (cI, 12, .inl (upd t7.2.2.1 (Int32.toNatClampNeg (q1 - q1 / (t7.2.1 (Int32.toNatClampNeg 0)) * (t7.2.1 (Int32.toNatClampNeg 0)))) ((q1 / 12) - (q1 / 12) / 2 * 2)))), (a_p3, .inl (cI, 12, .inl t7.2.2.2.1)), (a_p4, .inl (cI, 12, .inl t7.2.2.2.2))]) H := hP
        have hD : va_D A (wO cI cC cH a_p0 ad t7.1 ++ [(a_p1, .inl (cI, 1, .inl t7.2.1)), (a_p2, .inl (cI, 12, .inl (upd t7.2.2.1 (Int32.toNatClampNeg (q1 - q1 / (t7.2.1 (Int32.toNatClampNeg 0)) * (t7.2.1 (Int32.toNatClampNeg 0)))) ((q1 / 12) - (q1 / 12) / 2 * 2)))), (a_p3, .inl (cI, 12, .inl t7.2.2.2.1)), (a_p4, .inl (cI, 12, .inl t7.2.2.2.2))]) := hD
        refine lv_aload_n hx hb dL_acts_236 rfl (lv_at hl 3 rfl) ?_
        refine lv_iload hx hb dL_acts_237 (lv_at hl 2 rfl) ?_
        refine lv_aload_n hx hb dL_acts_239 rfl (lv_at hl 5 rfl) ?_
        refine lv_iload hx hb dL_acts_240 (lv_at hl 2 rfl) ?_
        obtain ⟨g94, h⟩ := chk_s h
        refine va_iald hx hb hK hP 40 0 rfl rfl (gi_in g94) dL_acts_242 ?_
        obtain ⟨q95, hq96, h⟩ := bd h
        refine lx4_own l D cI cC cH a_p0 ad N (q1 - q1 / (t7.2.1 (Int32.toNatClampNeg 0)) * (t7.2.1 (Int32.toNatClampNeg 0))) ((upd t7.2.2.1 (Int32.toNatClampNeg (q1 - q1 / (t7.2.1 (Int32.toNatClampNeg 0)) * (t7.2.1 (Int32.toNatClampNeg 0)))) ((q1 / 12) - (q1 / 12) / 2 * 2)) (Int32.toNatClampNeg (q1 - q1 / (t7.2.1 (Int32.toNatClampNeg 0)) * (t7.2.1 (Int32.toNatClampNeg 0))))) t7.1 q95 [] hq96 F hP hD hS hl ⟨Nat.le_of_ble_eq_true rfl, Nat.le_of_ble_eq_true rfl, (Nat.le_of_ble_eq_true rfl), (Nat.le_of_ble_eq_true rfl)⟩ (Nat.le_of_ble_eq_true rfl) dL_acts_243 (fun H locs hP hD hS => ?_)
        refine lv_iload hx hb dL_acts_246 (lv_at hl 0 rfl) ?_
        refine lv_icmp_ne (tgt := 255) hx hb dL_acts_248 (by decide) (fun c97 => ?_) (fun c97 => ?_)
        · have h := itF h c97
          refine lv_iconst (v := 0) hx hb dL_acts_255 (by decide) ?_
          obtain rfl := Option.some.inj h
          exact hret _ _ _ _ _ _ _ rfl (Nat.le_refl _) (Nat.le_refl _) rfl hP hD hS dL_acts_256
        · have h := itT h c97
          refine lv_iconst (v := 1) hx hb dL_acts_251 (by decide) ?_
          refine lv_goto (tgt := 256) hx hb dL_acts_252 (by decide) ?_
          obtain rfl := Option.some.inj h
          exact hret _ _ _ _ _ _ _ rfl (Nat.le_refl _) (Nat.le_refl _) rfl hP hD hS dL_acts_256
    · have h := itF h c42
      refine lv_aload hx hb dL_acts_126 (lv_at hl 6 rfl) ?_
      refine lv_iload hx hb dL_acts_128 (lv_at hl 1 rfl) ?_
      obtain ⟨g98, h⟩ := chk_s h
      refine va_iald hx hb hK hP 42 0 rfl rfl (gi_in g98) dL_acts_130 ?_
      refine lv_iload hx hb dL_acts_131 (lv_at hl 0 rfl) ?_
      refine lv_ishr hx hb dL_acts_133 ?_
      refine lv_iconst (v := 1) hx hb dL_acts_134 (by decide) ?_
      refine lv_iand hx hb dL_acts_135 ?_
      refine lv_istore (lv' := [(10, .int (((t7.2.2.2.2 (Int32.toNatClampNeg (q1 - q1 / (t7.2.1 (Int32.toNatClampNeg 0)) * (t7.2.1 (Int32.toNatClampNeg 0))))) >>> (((q1 / 12) - (q1 / 12) / (t7.2.1 (Int32.toNatClampNeg 0)) * (t7.2.1 (Int32.toNatClampNeg 0))) &&& 31)) &&& 1)), (9, .int ((q1 / 12) - (q1 / 12) / (t7.2.1 (Int32.toNatClampNeg 0)) * (t7.2.1 (Int32.toNatClampNeg 0)))), (8, .int (q1 - q1 / (t7.2.1 (Int32.toNatClampNeg 0)) * (t7.2.1 (Int32.toNatClampNeg 0)))), (0, .ref a_p0), (1, .ref a_p1), (2, .ref a_p2), (3, .ref a_p3), (4, .ref a_p4), (6, .int q1), (7, .int q3)]) hx hb dL_acts_136 hl (by decide) rfl (fun ls hl => ?_)
      refine lv_iload hx hb dL_acts_138 (lv_at hl 0 rfl) ?_
      refine lv_iconst (v := 1) hx hb dL_acts_140 (by decide) ?_
      obtain ⟨q100, hb116, h⟩ := bd h
      have J102 : ∀ t101, q100 = .inr t101 → ∀ (ls : Array Slot) (H : Heap) (locs : List Loc), lv_has ls 12 [(0, .ref a_p0), (4, .ref a_p4), (8, .int (q1 - q1 / (t7.2.1 (Int32.toNatClampNeg 0)) * (t7.2.1 (Int32.toNatClampNeg 0)))), (9, .int ((q1 / 12) - (q1 / 12) / (t7.2.1 (Int32.toNatClampNeg 0)) * (t7.2.1 (Int32.toNatClampNeg 0)))), (10, .int (((t7.2.2.2.2 (Int32.toNatClampNeg (q1 - q1 / (t7.2.1 (Int32.toNatClampNeg 0)) * (t7.2.1 (Int32.toNatClampNeg 0))))) >>> (((q1 / 12) - (q1 / 12) / (t7.2.1 (Int32.toNatClampNeg 0)) * (t7.2.1 (Int32.toNatClampNeg 0))) &&& 31)) &&& 1))] → va_P D vwCl (wO cI cC cH a_p0 ad t101 ++ [(a_p1, .inl (cI, 1, .inl t7.2.1)), (a_p2, .inl (cI, 12, .inl t7.2.2.1)), (a_p3, .inl (cI, 12, .inl t7.2.2.2.1)), (a_p4, .inl (cI, 12, .inl t7.2.2.2.2))]) H → va_D A (wO cI cC cH a_p0 ad t101 ++ [(a_p1, .inl (cI, 1, .inl t7.2.1)), (a_p2, .inl (cI, 12, .inl t7.2.2.1)), (a_p3, .inl (cI, 12, .inl t7.2.2.2.1)), (a_p4, .inl (cI, 12, .inl t7.2.2.2.2))]) → va_S A s.heap H locs → W p l e (rmn 8 182 0 0) s m args below meth c H locs 0 0 Q (F0 m 171 ls []) := by
        intro t101 e9 ls H locs hl hP hD hS
        rw [e9] at h
        have h := sm_r h
        refine lv_aload hx hb dL_acts_171 (lv_at hl 1 rfl) ?_
        refine lv_iload hx hb dL_acts_173 (lv_at hl 2 rfl) ?_
        refine lv_dup2_11 hx hb dL_acts_175 rfl rfl ?_
        obtain ⟨g108, h⟩ := chk_s h
        refine va_iald hx hb hK hP 42 0 rfl rfl (gi_in g108) dL_acts_176 ?_
        refine lv_iconst (v := 1) hx hb dL_acts_177 (by decide) ?_
        refine lv_iload hx hb dL_acts_178 (lv_at hl 3 rfl) ?_
        refine lv_ishl hx hb dL_acts_180 ?_
        refine lv_ixor hx hb dL_acts_181 ?_
        obtain ⟨g109, h⟩ := chk_s h
        refine va_iast hx hb hK hP hD hS 42 0 rfl rfl (gi_in g109) dL_acts_182 (fun H locs hP hD hS => ?_)
        have hP : va_P D vwCl (wO cI cC cH a_p0 ad t101 ++ [(a_p1, .inl (cI, 1, .inl t7.2.1)), (a_p2, .inl (cI, 12, .inl t7.2.2.1)), (a_p3, .inl (cI, 12, .inl t7.2.2.2.1)), (a_p4, .inl (cI, 12, .inl (upd t7.2.2.2.2 (Int32.toNatClampNeg (q1 - q1 / (t7.2.1 (Int32.toNatClampNeg 0)) * (t7.2.1 (Int32.toNatClampNeg 0)))) ((t7.2.2.2.2 (Int32.toNatClampNeg (q1 - q1 / (t7.2.1 (Int32.toNatClampNeg 0)) * (t7.2.1 (Int32.toNatClampNeg 0))))) ^^^ ((1 : Int32) <<< (((q1 / 12) - (q1 / 12) / (t7.2.1 (Int32.toNatClampNeg 0)) * (t7.2.1 (Int32.toNatClampNeg 0))) &&& 31))))))]) H := hP
        have hD : va_D A (wO cI cC cH a_p0 ad t101 ++ [(a_p1, .inl (cI, 1, .inl t7.2.1)), (a_p2, .inl (cI, 12, .inl t7.2.2.1)), (a_p3, .inl (cI, 12, .inl t7.2.2.2.1)), (a_p4, .inl (cI, 12, .inl (upd t7.2.2.2.2 (Int32.toNatClampNeg (q1 - q1 / (t7.2.1 (Int32.toNatClampNeg 0)) * (t7.2.1 (Int32.toNatClampNeg 0)))) ((t7.2.2.2.2 (Int32.toNatClampNeg (q1 - q1 / (t7.2.1 (Int32.toNatClampNeg 0)) * (t7.2.1 (Int32.toNatClampNeg 0))))) ^^^ ((1 : Int32) <<< (((q1 / 12) - (q1 / 12) / (t7.2.1 (Int32.toNatClampNeg 0)) * (t7.2.1 (Int32.toNatClampNeg 0))) &&& 31))))))]) := hD
        refine lv_aload_n hx hb dL_acts_183 rfl (lv_at hl 0 rfl) ?_
        refine lv_iload hx hb dL_acts_184 (lv_at hl 2 rfl) ?_
        refine lv_iload hx hb dL_acts_186 (lv_at hl 3 rfl) ?_
        refine lv_iconst (v := 1) hx hb dL_acts_188 (by decide) ?_
        refine lv_iload hx hb dL_acts_189 (lv_at hl 4 rfl) ?_
        refine lv_isub hx hb dL_acts_191 ?_
        obtain ⟨q110, hq111, h⟩ := bd h
        refine lx4_way l D cI cC cH a_p0 ad N (q1 - q1 / (t7.2.1 (Int32.toNatClampNeg 0)) * (t7.2.1 (Int32.toNatClampNeg 0))) ((q1 / 12) - (q1 / 12) / (t7.2.1 (Int32.toNatClampNeg 0)) * (t7.2.1 (Int32.toNatClampNeg 0))) (1 - (((t7.2.2.2.2 (Int32.toNatClampNeg (q1 - q1 / (t7.2.1 (Int32.toNatClampNeg 0)) * (t7.2.1 (Int32.toNatClampNeg 0))))) >>> (((q1 / 12) - (q1 / 12) / (t7.2.1 (Int32.toNatClampNeg 0)) * (t7.2.1 (Int32.toNatClampNeg 0))) &&& 31)) &&& 1)) t101 q110 [] hq111 F hP hD hS hl ⟨Nat.le_of_ble_eq_true rfl, Nat.le_of_ble_eq_true rfl, (Nat.le_of_ble_eq_true rfl), (Nat.le_of_ble_eq_true rfl)⟩ (Nat.le_of_ble_eq_true rfl) dL_acts_192 (fun H locs hP hD hS => ?_)
        refine lv_aload hx hb dL_acts_195 (lv_at hl 1 rfl) ?_
        refine lv_iload hx hb dL_acts_197 (lv_at hl 2 rfl) ?_
        obtain ⟨g112, h⟩ := chk_s h
        refine va_iald hx hb hK hP 42 0 rfl rfl (gi_in g112) dL_acts_199 ?_
        obtain ⟨q113, hq114, h⟩ := bd h
        refine ks0N (rest := [.int q110.1]) (As := [.int ((upd t7.2.2.2.2 (Int32.toNatClampNeg (q1 - q1 / (t7.2.1 (Int32.toNatClampNeg 0)) * (t7.2.1 (Int32.toNatClampNeg 0)))) ((t7.2.2.2.2 (Int32.toNatClampNeg (q1 - q1 / (t7.2.1 (Int32.toNatClampNeg 0)) * (t7.2.1 (Int32.toNatClampNeg 0))))) ^^^ ((1 : Int32) <<< (((q1 / 12) - (q1 / 12) / (t7.2.1 (Int32.toNatClampNeg 0)) * (t7.2.1 (Int32.toNatClampNeg 0))) &&& 31)))) (Int32.toNatClampNeg (q1 - q1 / (t7.2.1 (Int32.toNatClampNeg 0)) * (t7.2.1 (Int32.toNatClampNeg 0)))))]) F (c_L_ones l D cI cC cH  N ((upd t7.2.2.2.2 (Int32.toNatClampNeg (q1 - q1 / (t7.2.1 (Int32.toNatClampNeg 0)) * (t7.2.1 (Int32.toNatClampNeg 0)))) ((t7.2.2.2.2 (Int32.toNatClampNeg (q1 - q1 / (t7.2.1 (Int32.toNatClampNeg 0)) * (t7.2.1 (Int32.toNatClampNeg 0))))) ^^^ ((1 : Int32) <<< (((q1 / 12) - (q1 / 12) / (t7.2.1 (Int32.toNatClampNeg 0)) * (t7.2.1 (Int32.toNatClampNeg 0))) &&& 31)))) (Int32.toNatClampNeg (q1 - q1 / (t7.2.1 (Int32.toNatClampNeg 0)) * (t7.2.1 (Int32.toNatClampNeg 0))))) q113 hq114) yfL_ones ⟨wd2_14, wd2_15⟩ hP hD hS ⟨Nat.le_of_ble_eq_true rfl, Nat.le_of_ble_eq_true rfl, (Nat.le_of_ble_eq_true rfl), (Nat.le_of_ble_eq_true rfl)⟩ rfl hl rfl (Nat.le_of_ble_eq_true rfl) dL_acts_200 (fun H locs hP hD hS => ?_)
        refine lv_icmp_ne (tgt := 210) hx hb dL_acts_203 (by decide) (fun c115 => ?_) (fun c115 => ?_)
        · have h := itF h c115
          refine lv_iconst (v := 0) hx hb dL_acts_210 (by decide) ?_
          obtain rfl := Option.some.inj h
          exact hret _ _ _ _ _ _ _ rfl (Nat.le_refl _) (Nat.le_refl _) rfl hP hD hS dL_acts_211
        · have h := itT h c115
          refine lv_iconst (v := 1) hx hb dL_acts_206 (by decide) ?_
          refine lv_goto (tgt := 211) hx hb dL_acts_207 (by decide) ?_
          obtain rfl := Option.some.inj h
          exact hret _ _ _ _ _ _ _ rfl (Nat.le_refl _) (Nat.le_refl _) rfl hP hD hS dL_acts_211
      have hr103 : ∀ r9, q100 = .inl r9 → r9 = y := by
        intro r9 e9
        rw [e9] at h
        exact Option.some.inj h
      clear h
      have h := hb116
      clear hb116
      refine lv_icmp_ne (tgt := 171) hx hb dL_acts_141 (by decide) (fun c99 => ?_) (fun c99 => ?_)
      · have h := itF h c99
        obtain rfl := Option.some.inj h
        exact J102 _ rfl _ _ _ (lv_sub hl [3, 7, 2, 1, 0] rfl) hP hD hS
      · have h := itT h c99
        refine lv_iload hx hb dL_acts_144 (lv_at hl 8 rfl) ?_
        refine lv_iconst (v := 5) hx hb dL_acts_146 (by decide) ?_
        refine lv_irem hx hb dL_acts_147 (by decide) ?_
        refine lv_if_le (tgt := 171) hx hb dL_acts_148 (by decide) (fun c104 => ?_) (fun c104 => ?_)
        · have h := itT h c104
          obtain rfl := Option.some.inj h
          exact J102 _ rfl _ _ _ (lv_sub hl [3, 7, 2, 1, 0] rfl) hP hD hS
        · have h := itF h c104
          refine lv_aload_n hx hb dL_acts_151 rfl (lv_at hl 3 rfl) ?_
          refine lv_iload hx hb dL_acts_152 (lv_at hl 2 rfl) ?_
          refine lv_iload hx hb dL_acts_154 (lv_at hl 1 rfl) ?_
          refine lv_iconst (v := 1) hx hb dL_acts_156 (by decide) ?_
          obtain ⟨q105, hq106, h⟩ := bd h
          refine lx4_way l D cI cC cH a_p0 ad N (q1 - q1 / (t7.2.1 (Int32.toNatClampNeg 0)) * (t7.2.1 (Int32.toNatClampNeg 0))) ((q1 / 12) - (q1 / 12) / (t7.2.1 (Int32.toNatClampNeg 0)) * (t7.2.1 (Int32.toNatClampNeg 0))) 1 t7.1 q105 [] hq106 F hP hD hS hl ⟨Nat.le_of_ble_eq_true rfl, Nat.le_of_ble_eq_true rfl, (Nat.le_of_ble_eq_true rfl), (Nat.le_of_ble_eq_true rfl)⟩ (Nat.le_of_ble_eq_true rfl) dL_acts_157 (fun H locs hP hD hS => ?_)
          refine lv_bipush (v := (-2)) hx hb dL_acts_160 (by decide) ?_
          refine lv_icmp_ne (tgt := 169) hx hb dL_acts_162 (by decide) (fun c107 => ?_) (fun c107 => ?_)
          · have h := itF h c107
            refine lv_iconst (v := 0) hx hb dL_acts_169 (by decide) ?_
            obtain rfl := Option.some.inj h
            obtain rfl := hr103 _ rfl
            exact hret _ _ _ _ _ _ _ rfl (Nat.le_refl _) (Nat.le_refl _) rfl hP hD hS dL_acts_170
          · have h := itT h c107
            refine lv_iconst (v := 1) hx hb dL_acts_165 (by decide) ?_
            refine lv_goto (tgt := 170) hx hb dL_acts_166 (by decide) ?_
            obtain rfl := Option.some.inj h
            obtain rfl := hr103 _ rfl
            exact hret _ _ _ _ _ _ _ rfl (Nat.le_refl _) (Nat.le_refl _) rfl hP hD hS dL_acts_170
  have hr9 : ∀ r9, q6 = .inl r9 → r9 = y := by
    intro r9 e9
    rw [e9] at h
    exact Option.some.inj h
  clear h
  have h := hb117
  clear hb117
  refine lv_icmp_lt (tgt := 32) hx hb dL_acts_23 (by decide) (fun c5 => ?_) (fun c5 => ?_)
  · have h := itT h c5
    refine lv_aload_n hx hb dL_acts_32 rfl (lv_at hl 3 rfl) ?_
    refine lv_iconst (v := 0) hx hb dL_acts_33 (by decide) ?_
    obtain ⟨g10, h⟩ := chk_s h
    refine va_iald hx hb hK hP 39 0 rfl rfl (gi_in g10) dL_acts_34 ?_
    refine lv_bipush (v := 8) hx hb dL_acts_35 (by decide) ?_
    refine lv_icmp_ge (tgt := 100) hx hb dL_acts_37 (by decide) (fun c11 => ?_) (fun c11 => ?_)
    · have h := itT h c11
      obtain rfl := Option.some.inj h
      exact J8 _ rfl _ _ _ (lv_sub hl [2, 3, 4, 5, 6, 1, 0] rfl) hP hD hS
    · have h := itF h c11
      refine lv_aload_n hx hb dL_acts_40 rfl (lv_at hl 3 rfl) ?_
      refine lv_iconst (v := 0) hx hb dL_acts_41 (by decide) ?_
      obtain ⟨g12, h⟩ := chk_s h
      refine va_iald hx hb hK hP 39 0 rfl rfl (gi_in g12) dL_acts_42 ?_
      refine lv_istore (lv' := [(8, .int (zp1 (Int32.toNatClampNeg 0))), (7, .int q3), (6, .int q1), (0, .ref a_p0), (1, .ref a_p1), (2, .ref a_p2), (3, .ref a_p3), (4, .ref a_p4), (5, .int x5)]) hx hb dL_acts_43 hl (by decide) rfl (fun ls hl => ?_)
      refine lv_aload_n hx hb dL_acts_45 rfl (lv_at hl 5 rfl) ?_
      refine lv_iload hx hb dL_acts_46 (lv_at hl 0 rfl) ?_
      refine lv_iload hx hb dL_acts_48 (lv_at hl 2 rfl) ?_
      refine lv_iconst (v := 2) hx hb dL_acts_50 (by decide) ?_
      refine lv_irem hx hb dL_acts_51 (by decide) ?_
      obtain ⟨g13, h⟩ := chk_s h
      refine va_iast hx hb hK hP hD hS 40 0 rfl rfl (gi_in g13) dL_acts_52 (fun H locs hP hD hS => ?_)
      have hP : va_P D vwCl (wO cI cC cH a_p0 ad zp0 ++ [(a_p1, .inl (cI, 1, .inl zp1)), (a_p2, .inl (cI, 12, .inl (upd zp2 (Int32.toNatClampNeg (zp1 (Int32.toNatClampNeg 0))) (q1 - q1 / 2 * 2)))), (a_p3, .inl (cI, 12, .inl zp3)), (a_p4, .inl (cI, 12, .inl zp4))]) H := hP
      have hD : va_D A (wO cI cC cH a_p0 ad zp0 ++ [(a_p1, .inl (cI, 1, .inl zp1)), (a_p2, .inl (cI, 12, .inl (upd zp2 (Int32.toNatClampNeg (zp1 (Int32.toNatClampNeg 0))) (q1 - q1 / 2 * 2)))), (a_p3, .inl (cI, 12, .inl zp3)), (a_p4, .inl (cI, 12, .inl zp4))]) := hD
      refine lv_aload_n hx hb dL_acts_53 rfl (lv_at hl 6 rfl) ?_
      refine lv_iload hx hb dL_acts_54 (lv_at hl 0 rfl) ?_
      refine lv_iload hx hb dL_acts_56 (lv_at hl 2 rfl) ?_
      refine lv_iconst (v := 2) hx hb dL_acts_58 (by decide) ?_
      refine lv_idiv hx hb dL_acts_59 (by decide) ?_
      refine lv_bipush (v := 6) hx hb dL_acts_60 (by decide) ?_
      refine lv_irem hx hb dL_acts_62 (by decide) ?_
      obtain ⟨g14, h⟩ := chk_s h
      refine va_iast hx hb hK hP hD hS 41 0 rfl rfl (gi_in g14) dL_acts_63 (fun H locs hP hD hS => ?_)
      have hP : va_P D vwCl (wO cI cC cH a_p0 ad zp0 ++ [(a_p1, .inl (cI, 1, .inl zp1)), (a_p2, .inl (cI, 12, .inl (upd zp2 (Int32.toNatClampNeg (zp1 (Int32.toNatClampNeg 0))) (q1 - q1 / 2 * 2)))), (a_p3, .inl (cI, 12, .inl (upd zp3 (Int32.toNatClampNeg (zp1 (Int32.toNatClampNeg 0))) ((q1 / 2) - (q1 / 2) / 6 * 6)))), (a_p4, .inl (cI, 12, .inl zp4))]) H := hP
      have hD : va_D A (wO cI cC cH a_p0 ad zp0 ++ [(a_p1, .inl (cI, 1, .inl zp1)), (a_p2, .inl (cI, 12, .inl (upd zp2 (Int32.toNatClampNeg (zp1 (Int32.toNatClampNeg 0))) (q1 - q1 / 2 * 2)))), (a_p3, .inl (cI, 12, .inl (upd zp3 (Int32.toNatClampNeg (zp1 (Int32.toNatClampNeg 0))) ((q1 / 2) - (q1 / 2) / 6 * 6)))), (a_p4, .inl (cI, 12, .inl zp4))]) := hD
      refine lv_aload hx hb dL_acts_64 (lv_at hl 7 rfl) ?_
      refine lv_iload hx hb dL_acts_66 (lv_at hl 0 rfl) ?_
      refine lv_iconst (v := 0) hx hb dL_acts_68 (by decide) ?_
      obtain ⟨g15, h⟩ := chk_s h
      refine va_iast hx hb hK hP hD hS 42 0 rfl rfl (gi_in g15) dL_acts_69 (fun H locs hP hD hS => ?_)
      have hP : va_P D vwCl (wO cI cC cH a_p0 ad zp0 ++ [(a_p1, .inl (cI, 1, .inl zp1)), (a_p2, .inl (cI, 12, .inl (upd zp2 (Int32.toNatClampNeg (zp1 (Int32.toNatClampNeg 0))) (q1 - q1 / 2 * 2)))), (a_p3, .inl (cI, 12, .inl (upd zp3 (Int32.toNatClampNeg (zp1 (Int32.toNatClampNeg 0))) ((q1 / 2) - (q1 / 2) / 6 * 6)))), (a_p4, .inl (cI, 12, .inl (upd zp4 (Int32.toNatClampNeg (zp1 (Int32.toNatClampNeg 0))) 0)))]) H := hP
      have hD : va_D A (wO cI cC cH a_p0 ad zp0 ++ [(a_p1, .inl (cI, 1, .inl zp1)), (a_p2, .inl (cI, 12, .inl (upd zp2 (Int32.toNatClampNeg (zp1 (Int32.toNatClampNeg 0))) (q1 - q1 / 2 * 2)))), (a_p3, .inl (cI, 12, .inl (upd zp3 (Int32.toNatClampNeg (zp1 (Int32.toNatClampNeg 0))) ((q1 / 2) - (q1 / 2) / 6 * 6)))), (a_p4, .inl (cI, 12, .inl (upd zp4 (Int32.toNatClampNeg (zp1 (Int32.toNatClampNeg 0))) 0)))]) := hD
      refine lv_aload_n hx hb dL_acts_70 rfl (lv_at hl 4 rfl) ?_
      refine lv_iconst (v := 0) hx hb dL_acts_71 (by decide) ?_
      refine lv_dup2_11 hx hb dL_acts_72 rfl rfl ?_
      obtain ⟨g16, h⟩ := chk_s h
      refine va_iald hx hb hK hP 39 0 rfl rfl (gi_in g16) dL_acts_73 ?_
      refine lv_iconst (v := 1) hx hb dL_acts_74 (by decide) ?_
      refine lv_iadd hx hb dL_acts_75 ?_
      obtain ⟨g17, h⟩ := chk_s h
      refine va_iast hx hb hK hP hD hS 39 0 rfl rfl (gi_in g17) dL_acts_76 (fun H locs hP hD hS => ?_)
      have hP : va_P D vwCl (wO cI cC cH a_p0 ad zp0 ++ [(a_p1, .inl (cI, 1, .inl (upd zp1 (Int32.toNatClampNeg 0) ((zp1 (Int32.toNatClampNeg 0)) + 1)))), (a_p2, .inl (cI, 12, .inl (upd zp2 (Int32.toNatClampNeg (zp1 (Int32.toNatClampNeg 0))) (q1 - q1 / 2 * 2)))), (a_p3, .inl (cI, 12, .inl (upd zp3 (Int32.toNatClampNeg (zp1 (Int32.toNatClampNeg 0))) ((q1 / 2) - (q1 / 2) / 6 * 6)))), (a_p4, .inl (cI, 12, .inl (upd zp4 (Int32.toNatClampNeg (zp1 (Int32.toNatClampNeg 0))) 0)))]) H := hP
      have hD : va_D A (wO cI cC cH a_p0 ad zp0 ++ [(a_p1, .inl (cI, 1, .inl (upd zp1 (Int32.toNatClampNeg 0) ((zp1 (Int32.toNatClampNeg 0)) + 1)))), (a_p2, .inl (cI, 12, .inl (upd zp2 (Int32.toNatClampNeg (zp1 (Int32.toNatClampNeg 0))) (q1 - q1 / 2 * 2)))), (a_p3, .inl (cI, 12, .inl (upd zp3 (Int32.toNatClampNeg (zp1 (Int32.toNatClampNeg 0))) ((q1 / 2) - (q1 / 2) / 6 * 6)))), (a_p4, .inl (cI, 12, .inl (upd zp4 (Int32.toNatClampNeg (zp1 (Int32.toNatClampNeg 0))) 0)))]) := hD
      refine lv_aload_n hx hb dL_acts_77 rfl (lv_at hl 3 rfl) ?_
      refine lv_aload_n hx hb dL_acts_78 rfl (lv_at hl 5 rfl) ?_
      refine lv_iload hx hb dL_acts_79 (lv_at hl 0 rfl) ?_
      obtain ⟨g18, h⟩ := chk_s h
      refine va_iald hx hb hK hP 40 0 rfl rfl (gi_in g18) dL_acts_81 ?_
      refine lv_aload_n hx hb dL_acts_82 rfl (lv_at hl 6 rfl) ?_
      refine lv_iload hx hb dL_acts_83 (lv_at hl 0 rfl) ?_
      obtain ⟨g19, h⟩ := chk_s h
      refine va_iald hx hb hK hP 41 0 rfl rfl (gi_in g19) dL_acts_85 ?_
      obtain ⟨q20, hq21, h⟩ := bd h
      refine lx4_add l D cI cC cH a_p0 ad N ((upd zp2 (Int32.toNatClampNeg (zp1 (Int32.toNatClampNeg 0))) (q1 - q1 / 2 * 2)) (Int32.toNatClampNeg (zp1 (Int32.toNatClampNeg 0)))) ((upd zp3 (Int32.toNatClampNeg (zp1 (Int32.toNatClampNeg 0))) ((q1 / 2) - (q1 / 2) / 6 * 6)) (Int32.toNatClampNeg (zp1 (Int32.toNatClampNeg 0)))) zp0 q20 [] hq21 F hP hD hS hl ⟨Nat.le_of_ble_eq_true rfl, Nat.le_of_ble_eq_true rfl, (Nat.le_of_ble_eq_true rfl), (Nat.le_of_ble_eq_true rfl)⟩ (Nat.le_of_ble_eq_true rfl) dL_acts_86 (fun H locs hP hD hS => ?_)
      refine lv_iload hx hb dL_acts_89 (lv_at hl 0 rfl) ?_
      refine lv_icmp_ne (tgt := 98) hx hb dL_acts_91 (by decide) (fun c22 => ?_) (fun c22 => ?_)
      · have h := itF h c22
        refine lv_iconst (v := 0) hx hb dL_acts_98 (by decide) ?_
        obtain rfl := Option.some.inj h
        obtain rfl := hr9 _ rfl
        exact hret _ _ _ _ _ _ _ rfl (Nat.le_refl _) (Nat.le_refl _) rfl hP hD hS dL_acts_99
      · have h := itT h c22
        refine lv_iconst (v := 1) hx hb dL_acts_94 (by decide) ?_
        refine lv_goto (tgt := 99) hx hb dL_acts_95 (by decide) ?_
        obtain rfl := Option.some.inj h
        obtain rfl := hr9 _ rfl
        exact hret _ _ _ _ _ _ _ rfl (Nat.le_refl _) (Nat.le_refl _) rfl hP hD hS dL_acts_99
  · have h := itF h c5
    refine lv_aload_n hx hb dL_acts_26 rfl (lv_at hl 3 rfl) ?_
    refine lv_iconst (v := 0) hx hb dL_acts_27 (by decide) ?_
    obtain ⟨g23, h⟩ := chk_s h
    refine va_iald hx hb hK hP 39 0 rfl rfl (gi_in g23) dL_acts_28 ?_
    refine lv_if_ne (tgt := 100) hx hb dL_acts_29 (by decide) (fun c24 => ?_) (fun c24 => ?_)
    · have h := itF h c24
      obtain rfl := Option.some.inj h
      exact J8 _ rfl _ _ _ (lv_sub hl [2, 3, 4, 5, 6, 1, 0] rfl) hP hD hS
    · have h := itT h c24
      refine lv_aload_n hx hb dL_acts_32 rfl (lv_at hl 3 rfl) ?_
      refine lv_iconst (v := 0) hx hb dL_acts_33 (by decide) ?_
      obtain ⟨g25, h⟩ := chk_s h
      refine va_iald hx hb hK hP 39 0 rfl rfl (gi_in g25) dL_acts_34 ?_
      refine lv_bipush (v := 8) hx hb dL_acts_35 (by decide) ?_
      refine lv_icmp_ge (tgt := 100) hx hb dL_acts_37 (by decide) (fun c26 => ?_) (fun c26 => ?_)
      · have h := itT h c26
        obtain rfl := Option.some.inj h
        exact J8 _ rfl _ _ _ (lv_sub hl [2, 3, 4, 5, 6, 1, 0] rfl) hP hD hS
      · have h := itF h c26
        refine lv_aload_n hx hb dL_acts_40 rfl (lv_at hl 3 rfl) ?_
        refine lv_iconst (v := 0) hx hb dL_acts_41 (by decide) ?_
        obtain ⟨g27, h⟩ := chk_s h
        refine va_iald hx hb hK hP 39 0 rfl rfl (gi_in g27) dL_acts_42 ?_
        refine lv_istore (lv' := [(8, .int (zp1 (Int32.toNatClampNeg 0))), (7, .int q3), (6, .int q1), (0, .ref a_p0), (1, .ref a_p1), (2, .ref a_p2), (3, .ref a_p3), (4, .ref a_p4), (5, .int x5)]) hx hb dL_acts_43 hl (by decide) rfl (fun ls hl => ?_)
        refine lv_aload_n hx hb dL_acts_45 rfl (lv_at hl 5 rfl) ?_
        refine lv_iload hx hb dL_acts_46 (lv_at hl 0 rfl) ?_
        refine lv_iload hx hb dL_acts_48 (lv_at hl 2 rfl) ?_
        refine lv_iconst (v := 2) hx hb dL_acts_50 (by decide) ?_
        refine lv_irem hx hb dL_acts_51 (by decide) ?_
        obtain ⟨g28, h⟩ := chk_s h
        refine va_iast hx hb hK hP hD hS 40 0 rfl rfl (gi_in g28) dL_acts_52 (fun H locs hP hD hS => ?_)
        have hP : va_P D vwCl (wO cI cC cH a_p0 ad zp0 ++ [(a_p1, .inl (cI, 1, .inl zp1)), (a_p2, .inl (cI, 12, .inl (upd zp2 (Int32.toNatClampNeg (zp1 (Int32.toNatClampNeg 0))) (q1 - q1 / 2 * 2)))), (a_p3, .inl (cI, 12, .inl zp3)), (a_p4, .inl (cI, 12, .inl zp4))]) H := hP
        have hD : va_D A (wO cI cC cH a_p0 ad zp0 ++ [(a_p1, .inl (cI, 1, .inl zp1)), (a_p2, .inl (cI, 12, .inl (upd zp2 (Int32.toNatClampNeg (zp1 (Int32.toNatClampNeg 0))) (q1 - q1 / 2 * 2)))), (a_p3, .inl (cI, 12, .inl zp3)), (a_p4, .inl (cI, 12, .inl zp4))]) := hD
        refine lv_aload_n hx hb dL_acts_53 rfl (lv_at hl 6 rfl) ?_
        refine lv_iload hx hb dL_acts_54 (lv_at hl 0 rfl) ?_
        refine lv_iload hx hb dL_acts_56 (lv_at hl 2 rfl) ?_
        refine lv_iconst (v := 2) hx hb dL_acts_58 (by decide) ?_
        refine lv_idiv hx hb dL_acts_59 (by decide) ?_
        refine lv_bipush (v := 6) hx hb dL_acts_60 (by decide) ?_
        refine lv_irem hx hb dL_acts_62 (by decide) ?_
        obtain ⟨g29, h⟩ := chk_s h
        refine va_iast hx hb hK hP hD hS 41 0 rfl rfl (gi_in g29) dL_acts_63 (fun H locs hP hD hS => ?_)
        have hP : va_P D vwCl (wO cI cC cH a_p0 ad zp0 ++ [(a_p1, .inl (cI, 1, .inl zp1)), (a_p2, .inl (cI, 12, .inl (upd zp2 (Int32.toNatClampNeg (zp1 (Int32.toNatClampNeg 0))) (q1 - q1 / 2 * 2)))), (a_p3, .inl (cI, 12, .inl (upd zp3 (Int32.toNatClampNeg (zp1 (Int32.toNatClampNeg 0))) ((q1 / 2) - (q1 / 2) / 6 * 6)))), (a_p4, .inl (cI, 12, .inl zp4))]) H := hP
        have hD : va_D A (wO cI cC cH a_p0 ad zp0 ++ [(a_p1, .inl (cI, 1, .inl zp1)), (a_p2, .inl (cI, 12, .inl (upd zp2 (Int32.toNatClampNeg (zp1 (Int32.toNatClampNeg 0))) (q1 - q1 / 2 * 2)))), (a_p3, .inl (cI, 12, .inl (upd zp3 (Int32.toNatClampNeg (zp1 (Int32.toNatClampNeg 0))) ((q1 / 2) - (q1 / 2) / 6 * 6)))), (a_p4, .inl (cI, 12, .inl zp4))]) := hD
        refine lv_aload hx hb dL_acts_64 (lv_at hl 7 rfl) ?_
        refine lv_iload hx hb dL_acts_66 (lv_at hl 0 rfl) ?_
        refine lv_iconst (v := 0) hx hb dL_acts_68 (by decide) ?_
        obtain ⟨g30, h⟩ := chk_s h
        refine va_iast hx hb hK hP hD hS 42 0 rfl rfl (gi_in g30) dL_acts_69 (fun H locs hP hD hS => ?_)
        have hP : va_P D vwCl (wO cI cC cH a_p0 ad zp0 ++ [(a_p1, .inl (cI, 1, .inl zp1)), (a_p2, .inl (cI, 12, .inl (upd zp2 (Int32.toNatClampNeg (zp1 (Int32.toNatClampNeg 0))) (q1 - q1 / 2 * 2)))), (a_p3, .inl (cI, 12, .inl (upd zp3 (Int32.toNatClampNeg (zp1 (Int32.toNatClampNeg 0))) ((q1 / 2) - (q1 / 2) / 6 * 6)))), (a_p4, .inl (cI, 12, .inl (upd zp4 (Int32.toNatClampNeg (zp1 (Int32.toNatClampNeg 0))) 0)))]) H := hP
        have hD : va_D A (wO cI cC cH a_p0 ad zp0 ++ [(a_p1, .inl (cI, 1, .inl zp1)), (a_p2, .inl (cI, 12, .inl (upd zp2 (Int32.toNatClampNeg (zp1 (Int32.toNatClampNeg 0))) (q1 - q1 / 2 * 2)))), (a_p3, .inl (cI, 12, .inl (upd zp3 (Int32.toNatClampNeg (zp1 (Int32.toNatClampNeg 0))) ((q1 / 2) - (q1 / 2) / 6 * 6)))), (a_p4, .inl (cI, 12, .inl (upd zp4 (Int32.toNatClampNeg (zp1 (Int32.toNatClampNeg 0))) 0)))]) := hD
        refine lv_aload_n hx hb dL_acts_70 rfl (lv_at hl 4 rfl) ?_
        refine lv_iconst (v := 0) hx hb dL_acts_71 (by decide) ?_
        refine lv_dup2_11 hx hb dL_acts_72 rfl rfl ?_
        obtain ⟨g31, h⟩ := chk_s h
        refine va_iald hx hb hK hP 39 0 rfl rfl (gi_in g31) dL_acts_73 ?_
        refine lv_iconst (v := 1) hx hb dL_acts_74 (by decide) ?_
        refine lv_iadd hx hb dL_acts_75 ?_
        obtain ⟨g32, h⟩ := chk_s h
        refine va_iast hx hb hK hP hD hS 39 0 rfl rfl (gi_in g32) dL_acts_76 (fun H locs hP hD hS => ?_)
        have hP : va_P D vwCl (wO cI cC cH a_p0 ad zp0 ++ [(a_p1, .inl (cI, 1, .inl (upd zp1 (Int32.toNatClampNeg 0) ((zp1 (Int32.toNatClampNeg 0)) + 1)))), (a_p2, .inl (cI, 12, .inl (upd zp2 (Int32.toNatClampNeg (zp1 (Int32.toNatClampNeg 0))) (q1 - q1 / 2 * 2)))), (a_p3, .inl (cI, 12, .inl (upd zp3 (Int32.toNatClampNeg (zp1 (Int32.toNatClampNeg 0))) ((q1 / 2) - (q1 / 2) / 6 * 6)))), (a_p4, .inl (cI, 12, .inl (upd zp4 (Int32.toNatClampNeg (zp1 (Int32.toNatClampNeg 0))) 0)))]) H := hP
        have hD : va_D A (wO cI cC cH a_p0 ad zp0 ++ [(a_p1, .inl (cI, 1, .inl (upd zp1 (Int32.toNatClampNeg 0) ((zp1 (Int32.toNatClampNeg 0)) + 1)))), (a_p2, .inl (cI, 12, .inl (upd zp2 (Int32.toNatClampNeg (zp1 (Int32.toNatClampNeg 0))) (q1 - q1 / 2 * 2)))), (a_p3, .inl (cI, 12, .inl (upd zp3 (Int32.toNatClampNeg (zp1 (Int32.toNatClampNeg 0))) ((q1 / 2) - (q1 / 2) / 6 * 6)))), (a_p4, .inl (cI, 12, .inl (upd zp4 (Int32.toNatClampNeg (zp1 (Int32.toNatClampNeg 0))) 0)))]) := hD
        refine lv_aload_n hx hb dL_acts_77 rfl (lv_at hl 3 rfl) ?_
        refine lv_aload_n hx hb dL_acts_78 rfl (lv_at hl 5 rfl) ?_
        refine lv_iload hx hb dL_acts_79 (lv_at hl 0 rfl) ?_
        obtain ⟨g33, h⟩ := chk_s h
        refine va_iald hx hb hK hP 40 0 rfl rfl (gi_in g33) dL_acts_81 ?_
        refine lv_aload_n hx hb dL_acts_82 rfl (lv_at hl 6 rfl) ?_
        refine lv_iload hx hb dL_acts_83 (lv_at hl 0 rfl) ?_
        obtain ⟨g34, h⟩ := chk_s h
        refine va_iald hx hb hK hP 41 0 rfl rfl (gi_in g34) dL_acts_85 ?_
        obtain ⟨q35, hq36, h⟩ := bd h
        refine lx4_add l D cI cC cH a_p0 ad N ((upd zp2 (Int32.toNatClampNeg (zp1 (Int32.toNatClampNeg 0))) (q1 - q1 / 2 * 2)) (Int32.toNatClampNeg (zp1 (Int32.toNatClampNeg 0)))) ((upd zp3 (Int32.toNatClampNeg (zp1 (Int32.toNatClampNeg 0))) ((q1 / 2) - (q1 / 2) / 6 * 6)) (Int32.toNatClampNeg (zp1 (Int32.toNatClampNeg 0)))) zp0 q35 [] hq36 F hP hD hS hl ⟨Nat.le_of_ble_eq_true rfl, Nat.le_of_ble_eq_true rfl, (Nat.le_of_ble_eq_true rfl), (Nat.le_of_ble_eq_true rfl)⟩ (Nat.le_of_ble_eq_true rfl) dL_acts_86 (fun H locs hP hD hS => ?_)
        refine lv_iload hx hb dL_acts_89 (lv_at hl 0 rfl) ?_
        refine lv_icmp_ne (tgt := 98) hx hb dL_acts_91 (by decide) (fun c37 => ?_) (fun c37 => ?_)
        · have h := itF h c37
          refine lv_iconst (v := 0) hx hb dL_acts_98 (by decide) ?_
          obtain rfl := Option.some.inj h
          obtain rfl := hr9 _ rfl
          exact hret _ _ _ _ _ _ _ rfl (Nat.le_refl _) (Nat.le_refl _) rfl hP hD hS dL_acts_99
        · have h := itT h c37
          refine lv_iconst (v := 1) hx hb dL_acts_94 (by decide) ?_
          refine lv_goto (tgt := 99) hx hb dL_acts_95 (by decide) ?_
          obtain rfl := Option.some.inj h
          obtain rfl := hr9 _ rfl
          exact hret _ _ _ _ _ _ _ rfl (Nat.le_refl _) (Nat.le_refl _) rfl hP hD hS dL_acts_99
