def f_L_low (N : Nat) (x0 : Int32) (x1 : Int32) : Option (Int32) :=
    chk (decide (¬ x1 = 0)) (some ((x0 &&& 2147483647) - (x0 &&& 2147483647) / x1 * x1))
set_option maxHeartbeats 4000000 in
set_option maxRecDepth 100000 in
theorem c_L_low (l : Launch) (D : va_G) (cI cC cH : ClassId) (N : Nat) (x0 : Int32) (x1 : Int32) (y : Int32) (h : f_L_low N x0 x1 = some y) : CTn l yL_low cL_low 2 .int 0 0 0 0 D (tyL cI cC cH) [.int x0, .int x1] [] [] y := by
  unfold f_L_low at h
  refine ctN (by decide) (Nat.le_of_ble_eq_true rfl) ?_
  intro p e s m args below meth c A Q ls F hret hP hD hS hl
  have hx := F.1
  have hb := F.2.1
  have hown : s.vm.findClass RL = some m.cls := F.2.2.2.1
  have hts := F.2.2.2.2.1
  have hN := F.2.2.2.2.2.1
  have hK := F.2.2.2.2.2.2.1
  have hl : lv_has ls 2 [(0, .int x0), (1, .int x1)] := hl
  have hA := F.2.2.2.2.2.2.2
  refine lv_iload_n hx hb dL_low_0 rfl (lv_at hl 0 rfl) ?_
  refine lv_ldc (v := 2147483647) hx hb hown (hts _ wd1_218) dL_low_1 ?_
  refine lv_iand hx hb dL_low_3 ?_
  refine lv_iload_n hx hb dL_low_4 rfl (lv_at hl 1 rfl) ?_
  obtain ⟨g1, h⟩ := chk_s h
  refine lv_irem hx hb dL_low_5 (of_decide_eq_true g1) ?_
  obtain rfl := Option.some.inj h
  exact hret _ _ _ _ _ _ _ rfl (Nat.le_refl _) (Nat.le_refl _) rfl hP hD hS dL_low_6
def f_L_all (N : Nat) (zp0 : Nat → Int32) : Option (Int32) :=
    chk (gi 0 1) (some (((1 : Int32) <<< ((zp0 (Int32.toNatClampNeg 0)) &&& 31)) - 1))
set_option maxHeartbeats 4000000 in
set_option maxRecDepth 100000 in
theorem c_L_all (l : Launch) (D : va_G) (cI cC cH : ClassId) (a_p0 : Nat) (N : Nat) (zp0 : Nat → Int32) (y : Int32) (h : f_L_all N zp0 = some y) : CTn l yL_all cL_all 1 .int 0 0 0 0 D (tyL cI cC cH) [.ref a_p0] [(a_p0, .inl (cI, 1, .inl zp0))] [(a_p0, .inl (cI, 1, .inl zp0))] y := by
  unfold f_L_all at h
  refine ctN (by decide) (Nat.le_of_ble_eq_true rfl) ?_
  intro p e s m args below meth c A Q ls F hret hP hD hS hl
  have hx := F.1
  have hb := F.2.1
  have hown : s.vm.findClass RL = some m.cls := F.2.2.2.1
  have hts := F.2.2.2.2.1
  have hN := F.2.2.2.2.2.1
  have hK := F.2.2.2.2.2.2.1
  have hl : lv_has ls 1 [(0, .ref a_p0)] := hl
  have hA := F.2.2.2.2.2.2.2
  refine lv_iconst (v := 1) hx hb dL_all_0 (by decide) ?_
  refine lv_aload_n hx hb dL_all_1 rfl (lv_at hl 0 rfl) ?_
  refine lv_iconst (v := 0) hx hb dL_all_2 (by decide) ?_
  obtain ⟨g1, h⟩ := chk_s h
  refine va_iald hx hb hK hP 0 0 rfl rfl (gi_in g1) dL_all_3 ?_
  refine lv_ishl hx hb dL_all_4 ?_
  refine lv_iconst (v := 1) hx hb dL_all_5 (by decide) ?_
  refine lv_isub hx hb dL_all_6 ?_
  obtain rfl := Option.some.inj h
  exact hret _ _ _ _ _ _ _ rfl (Nat.le_refl _) (Nat.le_refl _) rfl hP hD hS dL_all_7
def f_L_ones_L4 (N : Nat) : Nat → Int32 → Int32 → Option (Int32)
  | 0, _, _ => none
  | n_4 + 1, x1_4, x2_4 =>
    if x2_4 = 0 then (some x1_4) else (f_L_ones_L4 N n_4 (x1_4 + 1) (x2_4 &&& (x2_4 - 1)))
def f_L_ones (N : Nat) (x0 : Int32) : Option (Int32) :=
    Option.bind (f_L_ones_L4 N N 0 x0) (fun q3 => some q3)
set_option maxHeartbeats 4000000 in
set_option maxRecDepth 100000 in
theorem c_L_ones (l : Launch) (D : va_G) (cI cC cH : ClassId) (N : Nat) (x0 : Int32) (y : Int32) (h : f_L_ones N x0 = some y) : CTn l yL_ones cL_ones 3 .int 0 0 0 0 D (tyL cI cC cH) [.int x0] [] [] y := by
  unfold f_L_ones at h
  refine ctN (by decide) (Nat.le_of_ble_eq_true rfl) ?_
  intro p e s m args below meth c A Q ls F hret hP hD hS hl
  have hx := F.1
  have hb := F.2.1
  have hown : s.vm.findClass RL = some m.cls := F.2.2.2.1
  have hts := F.2.2.2.2.1
  have hN := F.2.2.2.2.2.1
  have hK := F.2.2.2.2.2.2.1
  have hl : lv_has ls 3 [(0, .int x0)] := hl
  have hA := F.2.2.2.2.2.2.2
  refine lv_iconst (v := 0) hx hb dL_ones_0 (by decide) ?_
  refine lv_istore_n (lv' := [(1, .int 0), (0, .int x0)]) hx hb dL_ones_1 rfl hl (by decide) rfl (fun ls hl => ?_)
  refine lv_iload_n hx hb dL_ones_2 rfl (lv_at hl 1 rfl) ?_
  refine lv_istore_n (lv' := [(2, .int x0), (1, .int 0), (0, .int x0)]) hx hb dL_ones_3 rfl hl (by decide) rfl (fun ls hl => ?_)
  have L_4 : ∀ (n_4 : Nat) (x1_4 : Int32) (x2_4 : Int32) (q2 : (Int32)), f_L_ones_L4 N n_4 x1_4 x2_4 = some q2 → (∀ (ls : Array Slot) (H : Heap) (locs : List Loc), lv_has ls 3 [(1, .int q2)] → va_P D vwCl [] H → va_D A [] → va_S A s.heap H locs → W p l e (rmn 0 0 0 0) s m args below meth c H locs 0 0 Q (F0 m 20 ls [])) → ∀ (ls : Array Slot) (H : Heap) (locs : List Loc), lv_has ls 3 [(1, .int x1_4), (2, .int x2_4)] → va_P D vwCl [] H → va_D A [] → va_S A s.heap H locs → W p l e (rmn 0 0 0 0) s m args below meth c H locs 0 0 Q (F0 m 4 ls []) := by
    intro  n_4
    induction n_4 with
    | zero => intro x1_4 x2_4 q2 h; exact no_s h
    | succ n_4 ih_4 =>
      intro x1_4 x2_4 q2 h J_4 ls H locs hl hP hD hS
      rw [f_L_ones_L4] at h
      refine lv_iload_n hx hb dL_ones_4 rfl (lv_at hl 1 rfl) ?_
      refine lv_if_eq (tgt := 20) hx hb dL_ones_5 (by decide) (fun c1 => ?_) (fun c1 => ?_)
      · have h := itT h c1
        obtain rfl := Option.some.inj h
        exact J_4 _ _ _ (lv_sub hl [0] rfl) hP hD hS
      · have h := itF h c1
        refine lv_iinc (v := x1_4 + 1) (lv' := [(1, .int (x1_4 + 1)), (2, .int x2_4)]) hx hb dL_ones_8 hl (k := 0) rfl rfl (by decide) rfl (fun ls hl => ?_)
        refine lv_iload_n hx hb dL_ones_11 rfl (lv_at hl 1 rfl) ?_
        refine lv_iload_n hx hb dL_ones_12 rfl (lv_at hl 1 rfl) ?_
        refine lv_iconst (v := 1) hx hb dL_ones_13 (by decide) ?_
        refine lv_isub hx hb dL_ones_14 ?_
        refine lv_iand hx hb dL_ones_15 ?_
        refine lv_istore_n (lv' := [(2, .int (x2_4 &&& (x2_4 - 1))), (1, .int (x1_4 + 1))]) hx hb dL_ones_16 rfl hl (by decide) rfl (fun ls hl => ?_)
        refine lv_goto (tgt := 4) hx hb dL_ones_17 (by decide) ?_
        exact ih_4 (x1_4 + 1) (x2_4 &&& (x2_4 - 1)) _ h J_4 _ _ _ (lv_sub hl [1, 0] rfl) hP hD hS
  obtain ⟨q3, hb4, h⟩ := bd h
  refine L_4 N 0 x0 q3 hb4 ?_ _ _ _ (lv_sub hl [1, 0] rfl) hP hD hS
  intro ls H locs hl hP hD hS
  refine lv_iload_n hx hb dL_ones_20 rfl (lv_at hl 0 rfl) ?_
  obtain rfl := Option.some.inj h
  exact hret _ _ _ _ _ _ _ rfl (Nat.le_refl _) (Nat.le_refl _) rfl hP hD hS dL_ones_21
def f_L_next_L6 (N : Nat) (zp0_6 : Nat → Int32) (zp1_6 : Nat → Int32) (zp2_6 : Nat → Int32) (zp3_6 : Nat → Int32) (zp4_6 : Nat → Int32) : Nat → Int32 → Int32 → Option (Int32)
  | 0, _, _ => none
  | n_6 + 1, x5_6, x6_6 =>
    chk (gi 0 1) (if (zp0_6 (Int32.toNatClampNeg 0)) ≤ x6_6 then (some x5_6) else (chk (gi x6_6 12) (chk (gi (zp2_6 (Int32.toNatClampNeg x6_6)) 6) (chk (gi x6_6 12) (Option.bind (α := Int32) (if (zp1_6 (Int32.toNatClampNeg x6_6)) = 0 then (chk (gi x6_6 12) (if ((zp3_6 (Int32.toNatClampNeg x6_6)) &&& (zp4_6 (Int32.toNatClampNeg (zp2_6 (Int32.toNatClampNeg x6_6))))) = 0 then (some (0)) else (some (1)))) else (chk (gi x6_6 12) (if ((zp3_6 (Int32.toNatClampNeg x6_6)) &&& ((zp4_6 (Int32.toNatClampNeg (zp2_6 (Int32.toNatClampNeg x6_6)))) ^^^ (-1))) = 0 then (some (1)) else (some (0))))) (fun q7 => Option.bind (α := Int32) (if q7 = 0 then (some (0)) else (some ((1 : Int32) <<< (x6_6 &&& 31)))) (fun q15 => f_L_next_L6 N zp0_6 zp1_6 zp2_6 zp3_6 zp4_6 n_6 (x5_6 ||| q15) (x6_6 + 1))))))))
def f_L_next (N : Nat) (zp0 : Nat → Int32) (zp1 : Nat → Int32) (zp2 : Nat → Int32) (zp3 : Nat → Int32) (zp4 : Nat → Int32) : Option (Int32) :=
    Option.bind (f_L_next_L6 N zp0 zp1 zp2 zp3 zp4 N 0 0) (fun q21 => some q21)
set_option maxHeartbeats 4000000 in
set_option maxRecDepth 100000 in
theorem c_L_next (l : Launch) (D : va_G) (cI cC cH : ClassId) (a_p0 : Nat) (a_p1 : Nat) (a_p2 : Nat) (a_p3 : Nat) (a_p4 : Nat) (N : Nat) (zp0 : Nat → Int32) (zp1 : Nat → Int32) (zp2 : Nat → Int32) (zp3 : Nat → Int32) (zp4 : Nat → Int32) (y : Int32) (h : f_L_next N zp0 zp1 zp2 zp3 zp4 = some y) : CTn l yL_next cL_next 9 .int 0 0 0 0 D (tyL cI cC cH) [.ref a_p0, .ref a_p1, .ref a_p2, .ref a_p3, .ref a_p4] [(a_p0, .inl (cI, 1, .inl zp0)), (a_p1, .inl (cI, 12, .inl zp1)), (a_p2, .inl (cI, 12, .inl zp2)), (a_p3, .inl (cI, 12, .inl zp3)), (a_p4, .inl (cI, 6, .inl zp4))] [(a_p0, .inl (cI, 1, .inl zp0)), (a_p1, .inl (cI, 12, .inl zp1)), (a_p2, .inl (cI, 12, .inl zp2)), (a_p3, .inl (cI, 12, .inl zp3)), (a_p4, .inl (cI, 6, .inl zp4))] y := by
  unfold f_L_next at h
  refine ctN (by decide) (Nat.le_of_ble_eq_true rfl) ?_
  intro p e s m args below meth c A Q ls F hret hP hD hS hl
  have hx := F.1
  have hb := F.2.1
  have hown : s.vm.findClass RL = some m.cls := F.2.2.2.1
  have hts := F.2.2.2.2.1
  have hN := F.2.2.2.2.2.1
  have hK := F.2.2.2.2.2.2.1
  have hl : lv_has ls 9 [(0, .ref a_p0), (1, .ref a_p1), (2, .ref a_p2), (3, .ref a_p3), (4, .ref a_p4)] := hl
  have hA := F.2.2.2.2.2.2.2
  refine lv_iconst (v := 0) hx hb dL_next_0 (by decide) ?_
  refine lv_istore (lv' := [(5, .int 0), (0, .ref a_p0), (1, .ref a_p1), (2, .ref a_p2), (3, .ref a_p3), (4, .ref a_p4)]) hx hb dL_next_1 hl (by decide) rfl (fun ls hl => ?_)
  refine lv_iconst (v := 0) hx hb dL_next_3 (by decide) ?_
  refine lv_istore (lv' := [(6, .int 0), (5, .int 0), (0, .ref a_p0), (1, .ref a_p1), (2, .ref a_p2), (3, .ref a_p3), (4, .ref a_p4)]) hx hb dL_next_4 hl (by decide) rfl (fun ls hl => ?_)
  have L_6 : ∀ (zp0_6 : Nat → Int32) (zp1_6 : Nat → Int32) (zp2_6 : Nat → Int32) (zp3_6 : Nat → Int32) (zp4_6 : Nat → Int32), ∀ (n_6 : Nat) (x5_6 : Int32) (x6_6 : Int32) (q20 : (Int32)), f_L_next_L6 N zp0_6 zp1_6 zp2_6 zp3_6 zp4_6 n_6 x5_6 x6_6 = some q20 → (∀ (ls : Array Slot) (H : Heap) (locs : List Loc), lv_has ls 9 [(5, .int q20)] → va_P D vwCl [(a_p0, .inl (cI, 1, .inl zp0_6)), (a_p1, .inl (cI, 12, .inl zp1_6)), (a_p2, .inl (cI, 12, .inl zp2_6)), (a_p3, .inl (cI, 12, .inl zp3_6)), (a_p4, .inl (cI, 6, .inl zp4_6))] H → va_D A [(a_p0, .inl (cI, 1, .inl zp0_6)), (a_p1, .inl (cI, 12, .inl zp1_6)), (a_p2, .inl (cI, 12, .inl zp2_6)), (a_p3, .inl (cI, 12, .inl zp3_6)), (a_p4, .inl (cI, 6, .inl zp4_6))] → va_S A s.heap H locs → W p l e (rmn 0 0 0 0) s m args below meth c H locs 0 0 Q (F0 m 91 ls [])) → ∀ (ls : Array Slot) (H : Heap) (locs : List Loc), lv_has ls 9 [(0, .ref a_p0), (1, .ref a_p1), (2, .ref a_p2), (3, .ref a_p3), (4, .ref a_p4), (5, .int x5_6), (6, .int x6_6)] → va_P D vwCl [(a_p0, .inl (cI, 1, .inl zp0_6)), (a_p1, .inl (cI, 12, .inl zp1_6)), (a_p2, .inl (cI, 12, .inl zp2_6)), (a_p3, .inl (cI, 12, .inl zp3_6)), (a_p4, .inl (cI, 6, .inl zp4_6))] H → va_D A [(a_p0, .inl (cI, 1, .inl zp0_6)), (a_p1, .inl (cI, 12, .inl zp1_6)), (a_p2, .inl (cI, 12, .inl zp2_6)), (a_p3, .inl (cI, 12, .inl zp3_6)), (a_p4, .inl (cI, 6, .inl zp4_6))] → va_S A s.heap H locs → W p l e (rmn 0 0 0 0) s m args below meth c H locs 0 0 Q (F0 m 6 ls []) := by
    intro zp0_6 zp1_6 zp2_6 zp3_6 zp4_6 n_6
    induction n_6 with
    | zero => intro x5_6 x6_6 q20 h; exact no_s h
    | succ n_6 ih_6 =>
      intro x5_6 x6_6 q20 h J_6 ls H locs hl hP hD hS
      rw [f_L_next_L6] at h
      refine lv_iload hx hb dL_next_6 (lv_at hl 6 rfl) ?_
      refine lv_aload_n hx hb dL_next_8 rfl (lv_at hl 0 rfl) ?_
      refine lv_iconst (v := 0) hx hb dL_next_9 (by decide) ?_
      obtain ⟨g1, h⟩ := chk_s h
      refine va_iald hx hb hK hP 0 0 rfl rfl (gi_in g1) dL_next_10 ?_
      refine lv_icmp_ge (tgt := 91) hx hb dL_next_11 (by decide) (fun c2 => ?_) (fun c2 => ?_)
      · have h := itT h c2
        obtain rfl := Option.some.inj h
        exact J_6 _ _ _ (lv_sub hl [5] rfl) hP hD hS
      · have h := itF h c2
        refine lv_aload hx hb dL_next_14 (lv_at hl 4 rfl) ?_
        refine lv_aload_n hx hb dL_next_16 rfl (lv_at hl 2 rfl) ?_
        refine lv_iload hx hb dL_next_17 (lv_at hl 6 rfl) ?_
        obtain ⟨g3, h⟩ := chk_s h
        refine va_iald hx hb hK hP 2 0 rfl rfl (gi_in g3) dL_next_19 ?_
        obtain ⟨g4, h⟩ := chk_s h
        refine va_iald hx hb hK hP 4 0 rfl rfl (gi_in g4) dL_next_20 ?_
        refine lv_istore (lv' := [(7, .int (zp4_6 (Int32.toNatClampNeg (zp2_6 (Int32.toNatClampNeg x6_6))))), (0, .ref a_p0), (1, .ref a_p1), (2, .ref a_p2), (3, .ref a_p3), (4, .ref a_p4), (5, .int x5_6), (6, .int x6_6)]) hx hb dL_next_21 hl (by decide) rfl (fun ls hl => ?_)
        refine lv_aload_n hx hb dL_next_23 rfl (lv_at hl 2 rfl) ?_
        refine lv_iload hx hb dL_next_24 (lv_at hl 7 rfl) ?_
        obtain ⟨g5, h⟩ := chk_s h
        refine va_iald hx hb hK hP 1 0 rfl rfl (gi_in g5) dL_next_26 ?_
        obtain ⟨q7, hb19, h⟩ := bd h
        have J8 : ∀ (ls : Array Slot) (H : Heap) (locs : List Loc), lv_has ls 9 [(0, .ref a_p0), (1, .ref a_p1), (2, .ref a_p2), (3, .ref a_p3), (4, .ref a_p4), (5, .int x5_6), (6, .int x6_6)] → va_P D vwCl [(a_p0, .inl (cI, 1, .inl zp0_6)), (a_p1, .inl (cI, 12, .inl zp1_6)), (a_p2, .inl (cI, 12, .inl zp2_6)), (a_p3, .inl (cI, 12, .inl zp3_6)), (a_p4, .inl (cI, 6, .inl zp4_6))] H → va_D A [(a_p0, .inl (cI, 1, .inl zp0_6)), (a_p1, .inl (cI, 12, .inl zp1_6)), (a_p2, .inl (cI, 12, .inl zp2_6)), (a_p3, .inl (cI, 12, .inl zp3_6)), (a_p4, .inl (cI, 6, .inl zp4_6))] → va_S A s.heap H locs → W p l e (rmn 0 0 0 0) s m args below meth c H locs 0 0 Q (F0 m 65 ls [.int q7]) := by
          intro ls H locs hl hP hD hS
          refine lv_istore (lv' := [(8, .int q7), (0, .ref a_p0), (1, .ref a_p1), (2, .ref a_p2), (3, .ref a_p3), (4, .ref a_p4), (5, .int x5_6), (6, .int x6_6)]) hx hb dL_next_65 hl (by decide) rfl (fun ls hl => ?_)
          refine lv_iload hx hb dL_next_67 (lv_at hl 6 rfl) ?_
          refine lv_iload hx hb dL_next_69 (lv_at hl 0 rfl) ?_
          obtain ⟨q15, hb18, h⟩ := bd h
          have J16 : ∀ (ls : Array Slot) (H : Heap) (locs : List Loc), lv_has ls 9 [(0, .ref a_p0), (1, .ref a_p1), (2, .ref a_p2), (3, .ref a_p3), (4, .ref a_p4), (6, .int x6_6)] → va_P D vwCl [(a_p0, .inl (cI, 1, .inl zp0_6)), (a_p1, .inl (cI, 12, .inl zp1_6)), (a_p2, .inl (cI, 12, .inl zp2_6)), (a_p3, .inl (cI, 12, .inl zp3_6)), (a_p4, .inl (cI, 6, .inl zp4_6))] H → va_D A [(a_p0, .inl (cI, 1, .inl zp0_6)), (a_p1, .inl (cI, 12, .inl zp1_6)), (a_p2, .inl (cI, 12, .inl zp2_6)), (a_p3, .inl (cI, 12, .inl zp3_6)), (a_p4, .inl (cI, 6, .inl zp4_6))] → va_S A s.heap H locs → W p l e (rmn 0 0 0 0) s m args below meth c H locs 0 0 Q (F0 m 82 ls [.int q15, .int x5_6]) := by
            intro ls H locs hl hP hD hS
            refine lv_ior hx hb dL_next_82 ?_
            refine lv_istore (lv' := [(5, .int (x5_6 ||| q15)), (0, .ref a_p0), (1, .ref a_p1), (2, .ref a_p2), (3, .ref a_p3), (4, .ref a_p4), (6, .int x6_6)]) hx hb dL_next_83 hl (by decide) rfl (fun ls hl => ?_)
            refine lv_iinc (v := x6_6 + 1) (lv' := [(6, .int (x6_6 + 1)), (5, .int (x5_6 ||| q15)), (0, .ref a_p0), (1, .ref a_p1), (2, .ref a_p2), (3, .ref a_p3), (4, .ref a_p4)]) hx hb dL_next_85 hl (k := 6) rfl rfl (by decide) rfl (fun ls hl => ?_)
            refine lv_goto (tgt := 6) hx hb dL_next_88 (by decide) ?_
            exact ih_6 (x5_6 ||| q15) (x6_6 + 1) _ h J_6 _ _ _ (lv_sub hl [2, 3, 4, 5, 6, 1, 0] rfl) hP hD hS
          clear h
          have h := hb18
          clear hb18
          refine lv_if_eq (tgt := 81) hx hb dL_next_71 (by decide) (fun c14 => ?_) (fun c14 => ?_)
          · have h := itT h c14
            refine lv_iconst (v := 0) hx hb dL_next_81 (by decide) ?_
            obtain rfl := Option.some.inj h
            exact J16 _ _ _ (lv_sub hl [1, 2, 3, 4, 5, 7] rfl) hP hD hS
          · have h := itF h c14
            refine lv_iconst (v := 1) hx hb dL_next_74 (by decide) ?_
            refine lv_iload hx hb dL_next_75 (lv_at hl 7 rfl) ?_
            refine lv_ishl hx hb dL_next_77 ?_
            refine lv_goto (tgt := 82) hx hb dL_next_78 (by decide) ?_
            obtain rfl := Option.some.inj h
            exact J16 _ _ _ (lv_sub hl [1, 2, 3, 4, 5, 7] rfl) hP hD hS
        clear h
        have h := hb19
        clear hb19
        refine lv_if_ne (tgt := 48) hx hb dL_next_27 (by decide) (fun c6 => ?_) (fun c6 => ?_)
        · have h := itF h c6
          refine lv_aload_n hx hb dL_next_48 rfl (lv_at hl 4 rfl) ?_
          refine lv_iload hx hb dL_next_49 (lv_at hl 7 rfl) ?_
          obtain ⟨g10, h⟩ := chk_s h
          refine va_iald hx hb hK hP 3 0 rfl rfl (gi_in g10) dL_next_51 ?_
          refine lv_iload hx hb dL_next_52 (lv_at hl 0 rfl) ?_
          refine lv_iconst (v := (-1)) hx hb dL_next_54 (by decide) ?_
          refine lv_ixor hx hb dL_next_55 ?_
          refine lv_iand hx hb dL_next_56 ?_
          refine lv_if_ne (tgt := 64) hx hb dL_next_57 (by decide) (fun c11 => ?_) (fun c11 => ?_)
          · have h := itF h c11
            refine lv_iconst (v := 0) hx hb dL_next_64 (by decide) ?_
            obtain rfl := Option.some.inj h
            exact J8 _ _ _ (lv_sub hl [1, 2, 3, 4, 5, 6, 7] rfl) hP hD hS
          · have h := itT h c11
            refine lv_iconst (v := 1) hx hb dL_next_60 (by decide) ?_
            refine lv_goto (tgt := 65) hx hb dL_next_61 (by decide) ?_
            obtain rfl := Option.some.inj h
            exact J8 _ _ _ (lv_sub hl [1, 2, 3, 4, 5, 6, 7] rfl) hP hD hS
        · have h := itT h c6
          refine lv_aload_n hx hb dL_next_30 rfl (lv_at hl 4 rfl) ?_
          refine lv_iload hx hb dL_next_31 (lv_at hl 7 rfl) ?_
          obtain ⟨g12, h⟩ := chk_s h
          refine va_iald hx hb hK hP 3 0 rfl rfl (gi_in g12) dL_next_33 ?_
          refine lv_iload hx hb dL_next_34 (lv_at hl 0 rfl) ?_
          refine lv_iand hx hb dL_next_36 ?_
          refine lv_if_eq (tgt := 44) hx hb dL_next_37 (by decide) (fun c13 => ?_) (fun c13 => ?_)
          · have h := itT h c13
            refine lv_iconst (v := 0) hx hb dL_next_44 (by decide) ?_
            refine lv_goto (tgt := 65) hx hb dL_next_45 (by decide) ?_
            obtain rfl := Option.some.inj h
            exact J8 _ _ _ (lv_sub hl [1, 2, 3, 4, 5, 6, 7] rfl) hP hD hS
          · have h := itF h c13
            refine lv_iconst (v := 1) hx hb dL_next_40 (by decide) ?_
            refine lv_goto (tgt := 65) hx hb dL_next_41 (by decide) ?_
            obtain rfl := Option.some.inj h
            exact J8 _ _ _ (lv_sub hl [1, 2, 3, 4, 5, 6, 7] rfl) hP hD hS
  obtain ⟨q21, hb22, h⟩ := bd h
  refine L_6 zp0 zp1 zp2 zp3 zp4 N 0 0 q21 hb22 ?_ _ _ _ (lv_sub hl [2, 3, 4, 5, 6, 1, 0] rfl) hP hD hS
  intro ls H locs hl hP hD hS
  refine lv_iload hx hb dL_next_91 (lv_at hl 0 rfl) ?_
  obtain rfl := Option.some.inj h
  exact hret _ _ _ _ _ _ _ rfl (Nat.le_refl _) (Nat.le_refl _) rfl hP hD hS dL_next_93
def f_L_won_L109 (N : Nat) (zp0_109 : Nat → Int32) (zp1_109 : Nat → Int32) (zp2_109 : Nat → Int32) (zp3_109 : Nat → Int32) : Nat → Int32 → (Nat → Int32) → Option ((Nat → Int32))
  | 0, _, _ => none
  | n_109 + 1, x12_109, znew_109 =>
    chk (gi 0 6) (if x12_109 = (znew_109 (Int32.toNatClampNeg 0)) then (some znew_109) else (chk (gi 0 6) (Option.bind (f_L_next N zp0_109 zp1_109 zp2_109 zp3_109 znew_109) (fun q22 => chk (gi 0 6) (f_L_won_L109 N zp0_109 zp1_109 zp2_109 zp3_109 n_109 (znew_109 (Int32.toNatClampNeg 0)) (upd znew_109 (Int32.toNatClampNeg 0) q22))))))
def f_L_won_L92 (N : Nat) (x6_92 : Int32) (zp0_92 : Nat → Int32) (zp1_92 : Nat → Int32) (zp2_92 : Nat → Int32) (zp3_92 : Nat → Int32) : Nat → Int32 → (Nat → Int32) → Option ((Nat → Int32))
  | 0, _, _ => none
  | n_92 + 1, x11_92, znew_92 =>
    chk (gi 0 1) (if (zp0_92 (Int32.toNatClampNeg 0)) < x11_92 then (some znew_92) else (chk (gi 0 6) (Option.bind (f_L_won_L109 N zp0_92 zp1_92 zp2_92 zp3_92 N (-1) (upd znew_92 (Int32.toNatClampNeg 0) x6_92)) (fun q26 => chk (gi 1 6) (chk (gi 0 6) (Option.bind (α := Int32) (if (q26 (Int32.toNatClampNeg 1)) = (q26 (Int32.toNatClampNeg 0)) then (chk (gi 0 1) (some (zp0_92 (Int32.toNatClampNeg 0)))) else (some (x11_92))) (fun q30 => chk (gi 0 6) (chk (gi 1 6) (f_L_won_L92 N x6_92 zp0_92 zp1_92 zp2_92 zp3_92 n_92 (q30 + 1) (upd q26 (Int32.toNatClampNeg 1) (q26 (Int32.toNatClampNeg 0))))))))))))
def f_L_won_L75 (N : Nat) (x5_75 : Int32) (x6_75 : Int32) (zp0_75 : Nat → Int32) (zp1_75 : Nat → Int32) (zp2_75 : Nat → Int32) (zp3_75 : Nat → Int32) : Nat → Int32 → (Nat → Int32) → Option ((Nat → Int32))
  | 0, _, _ => none
  | n_75 + 1, x10_75, znew_75 =>
    chk (gi 0 1) (if (zp0_75 (Int32.toNatClampNeg 0)) < x10_75 then (some znew_75) else (chk (gi 1 6) (Option.bind (f_L_won_L92 N x6_75 zp0_75 zp1_75 zp2_75 zp3_75 N 0 (upd znew_75 (Int32.toNatClampNeg 1) x5_75)) (fun q39 => chk (gi 2 6) (chk (gi 1 6) (Option.bind (α := Int32) (if (q39 (Int32.toNatClampNeg 2)) = (q39 (Int32.toNatClampNeg 1)) then (chk (gi 0 1) (some (zp0_75 (Int32.toNatClampNeg 0)))) else (some (x10_75))) (fun q43 => chk (gi 1 6) (chk (gi 2 6) (f_L_won_L75 N x5_75 x6_75 zp0_75 zp1_75 zp2_75 zp3_75 n_75 (q43 + 1) (upd q39 (Int32.toNatClampNeg 2) (q39 (Int32.toNatClampNeg 1))))))))))))
def f_L_won_L58 (N : Nat) (x5_58 : Int32) (x6_58 : Int32) (zp0_58 : Nat → Int32) (zp1_58 : Nat → Int32) (zp2_58 : Nat → Int32) (zp3_58 : Nat → Int32) : Nat → Int32 → (Nat → Int32) → Option ((Nat → Int32))
  | 0, _, _ => none
  | n_58 + 1, x9_58, znew_58 =>
    chk (gi 0 1) (if (zp0_58 (Int32.toNatClampNeg 0)) < x9_58 then (some znew_58) else (chk (gi 2 6) (Option.bind (f_L_won_L75 N x5_58 x6_58 zp0_58 zp1_58 zp2_58 zp3_58 N 0 (upd znew_58 (Int32.toNatClampNeg 2) x6_58)) (fun q52 => chk (gi 3 6) (chk (gi 2 6) (Option.bind (α := Int32) (if (q52 (Int32.toNatClampNeg 3)) = (q52 (Int32.toNatClampNeg 2)) then (chk (gi 0 1) (some (zp0_58 (Int32.toNatClampNeg 0)))) else (some (x9_58))) (fun q56 => chk (gi 2 6) (chk (gi 3 6) (f_L_won_L58 N x5_58 x6_58 zp0_58 zp1_58 zp2_58 zp3_58 n_58 (q56 + 1) (upd q52 (Int32.toNatClampNeg 3) (q52 (Int32.toNatClampNeg 2))))))))))))
def f_L_won_L41 (N : Nat) (x5_41 : Int32) (x6_41 : Int32) (zp0_41 : Nat → Int32) (zp1_41 : Nat → Int32) (zp2_41 : Nat → Int32) (zp3_41 : Nat → Int32) : Nat → Int32 → (Nat → Int32) → Option ((Nat → Int32))
  | 0, _, _ => none
  | n_41 + 1, x8_41, znew_41 =>
    chk (gi 0 1) (if (zp0_41 (Int32.toNatClampNeg 0)) < x8_41 then (some znew_41) else (chk (gi 3 6) (Option.bind (f_L_won_L58 N x5_41 x6_41 zp0_41 zp1_41 zp2_41 zp3_41 N 0 (upd znew_41 (Int32.toNatClampNeg 3) x5_41)) (fun q65 => chk (gi 4 6) (chk (gi 3 6) (Option.bind (α := Int32) (if (q65 (Int32.toNatClampNeg 4)) = (q65 (Int32.toNatClampNeg 3)) then (chk (gi 0 1) (some (zp0_41 (Int32.toNatClampNeg 0)))) else (some (x8_41))) (fun q69 => chk (gi 3 6) (chk (gi 4 6) (f_L_won_L41 N x5_41 x6_41 zp0_41 zp1_41 zp2_41 zp3_41 n_41 (q69 + 1) (upd q65 (Int32.toNatClampNeg 4) (q65 (Int32.toNatClampNeg 3))))))))))))
def f_L_won_L24 (N : Nat) (x5_24 : Int32) (x6_24 : Int32) (zp0_24 : Nat → Int32) (zp1_24 : Nat → Int32) (zp2_24 : Nat → Int32) (zp3_24 : Nat → Int32) : Nat → Int32 → (Nat → Int32) → Option ((Nat → Int32))
  | 0, _, _ => none
  | n_24 + 1, x7_24, znew_24 =>
    chk (gi 0 1) (if (zp0_24 (Int32.toNatClampNeg 0)) < x7_24 then (some znew_24) else (chk (gi 4 6) (Option.bind (f_L_won_L41 N x5_24 x6_24 zp0_24 zp1_24 zp2_24 zp3_24 N 0 (upd znew_24 (Int32.toNatClampNeg 4) x6_24)) (fun q78 => chk (gi 5 6) (chk (gi 4 6) (Option.bind (α := Int32) (if (q78 (Int32.toNatClampNeg 5)) = (q78 (Int32.toNatClampNeg 4)) then (chk (gi 0 1) (some (zp0_24 (Int32.toNatClampNeg 0)))) else (some (x7_24))) (fun q82 => chk (gi 4 6) (chk (gi 5 6) (f_L_won_L24 N x5_24 x6_24 zp0_24 zp1_24 zp2_24 zp3_24 n_24 (q82 + 1) (upd q78 (Int32.toNatClampNeg 5) (q78 (Int32.toNatClampNeg 4))))))))))))
def f_L_won (N : Nat) (zp0 : Nat → Int32) (zp1 : Nat → Int32) (zp2 : Nat → Int32) (zp3 : Nat → Int32) : Option (Int32) :=
    Option.bind (f_L_all N zp0) (fun q1 => chk (gi 5 6) (Option.bind (f_L_won_L24 N 0 q1 zp0 zp1 zp2 zp3 N 0 (upd (fun _ => 0) (Int32.toNatClampNeg 5) 0)) (fun q91 => chk (gi 5 6) (some (q91 (Int32.toNatClampNeg 5))))))
set_option maxHeartbeats 4000000 in
set_option maxRecDepth 100000 in
theorem c_L_won (l : Launch) (D : va_G) (cI cC cH : ClassId) (a_p0 : Nat) (a_p1 : Nat) (a_p2 : Nat) (a_p3 : Nat) (N : Nat) (zp0 : Nat → Int32) (zp1 : Nat → Int32) (zp2 : Nat → Int32) (zp3 : Nat → Int32) (y : Int32) (h : f_L_won N zp0 zp1 zp2 zp3 = some y) : CTn l yL_won cL_won 13 .int 1 28 1 12 D (tyL cI cC cH) [.ref a_p0, .ref a_p1, .ref a_p2, .ref a_p3] [(a_p0, .inl (cI, 1, .inl zp0)), (a_p1, .inl (cI, 12, .inl zp1)), (a_p2, .inl (cI, 12, .inl zp2)), (a_p3, .inl (cI, 12, .inl zp3))] [(a_p0, .inl (cI, 1, .inl zp0)), (a_p1, .inl (cI, 12, .inl zp1)), (a_p2, .inl (cI, 12, .inl zp2)), (a_p3, .inl (cI, 12, .inl zp3))] y := by
  unfold f_L_won at h
  refine ctN (by decide) (Nat.le_of_ble_eq_true rfl) ?_
  intro p e s m args below meth c A Q ls F hret hP hD hS hl
  have hx := F.1
  have hb := F.2.1
  have hown : s.vm.findClass RL = some m.cls := F.2.2.2.1
  have hts := F.2.2.2.2.1
  have hN := F.2.2.2.2.2.1
  have hK := F.2.2.2.2.2.2.1
  have hl : lv_has ls 13 [(0, .ref a_p0), (1, .ref a_p1), (2, .ref a_p2), (3, .ref a_p3)] := hl
  have hA := F.2.2.2.2.2.2.2
  refine lv_bipush (v := 6) hx hb dL_won_0 (by decide) ?_
  refine va_newa (atype := .int) (ty := .int) (a0 := (6, .inl (fun _ => 0))) hx hb (hts _ wdaI) rfl hK hP hD hS hA (fun _ => rfl) (by decide) rfl (by decide) (Nat.le_of_ble_eq_true rfl) (Nat.le_of_ble_eq_true rfl) dL_won_2 (fun a_new cA H hK9 hP hD hS => ?_)
  have eA : cA = cI := Option.some.inj (((hK9.2 3 _ rfl).2).symm.trans ((hK.2 0 _ rfl).2))
  rw [eA] at hP hD
  clear eA hK9
  have hP : va_P D vwCl [(a_p0, .inl (cI, 1, .inl zp0)), (a_p1, .inl (cI, 12, .inl zp1)), (a_p2, .inl (cI, 12, .inl zp2)), (a_p3, .inl (cI, 12, .inl zp3)), (a_new, .inl (cI, 6, .inl (fun _ => 0)))] H := hP
  have hD : va_D A [(a_p0, .inl (cI, 1, .inl zp0)), (a_p1, .inl (cI, 12, .inl zp1)), (a_p2, .inl (cI, 12, .inl zp2)), (a_p3, .inl (cI, 12, .inl zp3)), (a_new, .inl (cI, 6, .inl (fun _ => 0)))] := hD
  refine W.widen (k := 1) (n := 12) (Nat.le_of_ble_eq_true rfl) (Nat.le_of_ble_eq_true rfl) ?_
  refine lv_astore (lv' := [(4, .ref a_new), (0, .ref a_p0), (1, .ref a_p1), (2, .ref a_p2), (3, .ref a_p3)]) hx hb dL_won_4 hl (by decide) rfl (fun ls hl => ?_)
  refine lv_iconst (v := 0) hx hb dL_won_6 (by decide) ?_
  refine lv_istore (lv' := [(5, .int 0), (4, .ref a_new), (0, .ref a_p0), (1, .ref a_p1), (2, .ref a_p2), (3, .ref a_p3)]) hx hb dL_won_7 hl (by decide) rfl (fun ls hl => ?_)
  refine lv_aload_n hx hb dL_won_9 rfl (lv_at hl 2 rfl) ?_
  obtain ⟨q1, hq2, h⟩ := bd h
  refine ksN (ws' := [(a_p0, .inl (cI, 1, .inl zp0)), (a_p1, .inl (cI, 12, .inl zp1)), (a_p2, .inl (cI, 12, .inl zp2)), (a_p3, .inl (cI, 12, .inl zp3)), (a_new, .inl (cI, 6, .inl (fun _ => 0)))]) (wr := [(a_p1, .inl (cI, 12, .inl zp1)), (a_p2, .inl (cI, 12, .inl zp2)), (a_p3, .inl (cI, 12, .inl zp3)), (a_new, .inl (cI, 6, .inl (fun _ => 0)))]) (rest := []) (As := [.ref a_p0]) F (c_L_all l D cI cC cH a_p0 N zp0 q1 hq2) yfL_all ⟨wd2_105, wd2_106⟩ hP hD hS [0] [1, 2, 3, 4] [4, 0, 1, 2, 3] rfl rfl (by decide) (by decide) (by decide) rfl (by decide) ⟨Nat.le_of_ble_eq_true rfl, Nat.le_of_ble_eq_true rfl, (Nat.le_of_ble_eq_true rfl), (Nat.le_of_ble_eq_true rfl)⟩ rfl hl rfl (Nat.le_of_ble_eq_true rfl) dL_won_10 (fun H locs hP hD hS => ?_)
  refine lv_istore (lv' := [(6, .int q1), (5, .int 0), (4, .ref a_new), (0, .ref a_p0), (1, .ref a_p1), (2, .ref a_p2), (3, .ref a_p3)]) hx hb dL_won_13 hl (by decide) rfl (fun ls hl => ?_)
  refine lv_aload hx hb dL_won_15 (lv_at hl 2 rfl) ?_
  refine lv_iconst (v := 5) hx hb dL_won_17 (by decide) ?_
  refine lv_iload hx hb dL_won_18 (lv_at hl 1 rfl) ?_
  obtain ⟨g3, h⟩ := chk_s h
  refine va_iast hx hb hK hP hD hS 4 0 rfl rfl (gi_in g3) dL_won_20 (fun H locs hP hD hS => ?_)
  have hP : va_P D vwCl [(a_p0, .inl (cI, 1, .inl zp0)), (a_p1, .inl (cI, 12, .inl zp1)), (a_p2, .inl (cI, 12, .inl zp2)), (a_p3, .inl (cI, 12, .inl zp3)), (a_new, .inl (cI, 6, .inl (upd (fun _ => 0) (Int32.toNatClampNeg 5) 0)))] H := hP
  have hD : va_D A [(a_p0, .inl (cI, 1, .inl zp0)), (a_p1, .inl (cI, 12, .inl zp1)), (a_p2, .inl (cI, 12, .inl zp2)), (a_p3, .inl (cI, 12, .inl zp3)), (a_new, .inl (cI, 6, .inl (upd (fun _ => 0) (Int32.toNatClampNeg 5) 0)))] := hD
  refine lv_iconst (v := 0) hx hb dL_won_21 (by decide) ?_
  refine lv_istore (lv' := [(7, .int 0), (6, .int q1), (5, .int 0), (4, .ref a_new), (0, .ref a_p0), (1, .ref a_p1), (2, .ref a_p2), (3, .ref a_p3)]) hx hb dL_won_22 hl (by decide) rfl (fun ls hl => ?_)
  have L_24 : ∀ (x5_24 : Int32) (x6_24 : Int32) (zp0_24 : Nat → Int32) (zp1_24 : Nat → Int32) (zp2_24 : Nat → Int32) (zp3_24 : Nat → Int32), ∀ (n_24 : Nat) (x7_24 : Int32) (znew_24 : Nat → Int32) (q90 : ((Nat → Int32))), f_L_won_L24 N x5_24 x6_24 zp0_24 zp1_24 zp2_24 zp3_24 n_24 x7_24 znew_24 = some q90 → (∀ (ls : Array Slot) (H : Heap) (locs : List Loc), lv_has ls 13 [(4, .ref a_new)] → va_P D vwCl [(a_p0, .inl (cI, 1, .inl zp0_24)), (a_p1, .inl (cI, 12, .inl zp1_24)), (a_p2, .inl (cI, 12, .inl zp2_24)), (a_p3, .inl (cI, 12, .inl zp3_24)), (a_new, .inl (cI, 6, .inl q90))] H → va_D A [(a_p0, .inl (cI, 1, .inl zp0_24)), (a_p1, .inl (cI, 12, .inl zp1_24)), (a_p2, .inl (cI, 12, .inl zp2_24)), (a_p3, .inl (cI, 12, .inl zp3_24)), (a_new, .inl (cI, 6, .inl q90))] → va_S A s.heap H locs → W p l e (rmn 1 28 1 12) s m args below meth c H locs 1 12 Q (F0 m 315 ls [])) → ∀ (ls : Array Slot) (H : Heap) (locs : List Loc), lv_has ls 13 [(0, .ref a_p0), (1, .ref a_p1), (2, .ref a_p2), (3, .ref a_p3), (4, .ref a_new), (5, .int x5_24), (6, .int x6_24), (7, .int x7_24)] → va_P D vwCl [(a_p0, .inl (cI, 1, .inl zp0_24)), (a_p1, .inl (cI, 12, .inl zp1_24)), (a_p2, .inl (cI, 12, .inl zp2_24)), (a_p3, .inl (cI, 12, .inl zp3_24)), (a_new, .inl (cI, 6, .inl znew_24))] H → va_D A [(a_p0, .inl (cI, 1, .inl zp0_24)), (a_p1, .inl (cI, 12, .inl zp1_24)), (a_p2, .inl (cI, 12, .inl zp2_24)), (a_p3, .inl (cI, 12, .inl zp3_24)), (a_new, .inl (cI, 6, .inl znew_24))] → va_S A s.heap H locs → W p l e (rmn 1 28 1 12) s m args below meth c H locs 1 12 Q (F0 m 24 ls []) := by
    intro x5_24 x6_24 zp0_24 zp1_24 zp2_24 zp3_24 n_24
    induction n_24 with
    | zero => intro x7_24 znew_24 q90 h; exact no_s h
    | succ n_24 ih_24 =>
      intro x7_24 znew_24 q90 h J_24 ls H locs hl hP hD hS
      rw [f_L_won_L24] at h
      refine lv_iload hx hb dL_won_24 (lv_at hl 7 rfl) ?_
      refine lv_aload_n hx hb dL_won_26 rfl (lv_at hl 0 rfl) ?_
      refine lv_iconst (v := 0) hx hb dL_won_27 (by decide) ?_
      obtain ⟨g4, h⟩ := chk_s h
      refine va_iald hx hb hK hP 0 0 rfl rfl (gi_in g4) dL_won_28 ?_
      refine lv_icmp_gt (tgt := 315) hx hb dL_won_29 (by decide) (fun c5 => ?_) (fun c5 => ?_)
      · have h := itT h c5
        obtain rfl := Option.some.inj h
        exact J_24 _ _ _ (lv_sub hl [4] rfl) hP hD hS
      · have h := itF h c5
        refine lv_aload hx hb dL_won_32 (lv_at hl 4 rfl) ?_
        refine lv_iconst (v := 4) hx hb dL_won_34 (by decide) ?_
        refine lv_iload hx hb dL_won_35 (lv_at hl 6 rfl) ?_
        obtain ⟨g6, h⟩ := chk_s h
        refine va_iast hx hb hK hP hD hS 4 0 rfl rfl (gi_in g6) dL_won_37 (fun H locs hP hD hS => ?_)
        have hP : va_P D vwCl [(a_p0, .inl (cI, 1, .inl zp0_24)), (a_p1, .inl (cI, 12, .inl zp1_24)), (a_p2, .inl (cI, 12, .inl zp2_24)), (a_p3, .inl (cI, 12, .inl zp3_24)), (a_new, .inl (cI, 6, .inl (upd znew_24 (Int32.toNatClampNeg 4) x6_24)))] H := hP
        have hD : va_D A [(a_p0, .inl (cI, 1, .inl zp0_24)), (a_p1, .inl (cI, 12, .inl zp1_24)), (a_p2, .inl (cI, 12, .inl zp2_24)), (a_p3, .inl (cI, 12, .inl zp3_24)), (a_new, .inl (cI, 6, .inl (upd znew_24 (Int32.toNatClampNeg 4) x6_24)))] := hD
        refine lv_iconst (v := 0) hx hb dL_won_38 (by decide) ?_
        refine lv_istore (lv' := [(8, .int 0), (0, .ref a_p0), (1, .ref a_p1), (2, .ref a_p2), (3, .ref a_p3), (4, .ref a_new), (5, .int x5_24), (6, .int x6_24), (7, .int x7_24)]) hx hb dL_won_39 hl (by decide) rfl (fun ls hl => ?_)
        have L_41 : ∀ (x5_41 : Int32) (x6_41 : Int32) (x7_41 : Int32) (zp0_41 : Nat → Int32) (zp1_41 : Nat → Int32) (zp2_41 : Nat → Int32) (zp3_41 : Nat → Int32), ∀ (n_41 : Nat) (x8_41 : Int32) (znew_41 : Nat → Int32) (q77 : ((Nat → Int32))), f_L_won_L41 N x5_41 x6_41 zp0_41 zp1_41 zp2_41 zp3_41 n_41 x8_41 znew_41 = some q77 → (∀ (ls : Array Slot) (H : Heap) (locs : List Loc), lv_has ls 13 [(0, .ref a_p0), (1, .ref a_p1), (2, .ref a_p2), (3, .ref a_p3), (4, .ref a_new), (5, .int x5_41), (6, .int x6_41), (7, .int x7_41)] → va_P D vwCl [(a_p0, .inl (cI, 1, .inl zp0_41)), (a_p1, .inl (cI, 12, .inl zp1_41)), (a_p2, .inl (cI, 12, .inl zp2_41)), (a_p3, .inl (cI, 12, .inl zp3_41)), (a_new, .inl (cI, 6, .inl q77))] H → va_D A [(a_p0, .inl (cI, 1, .inl zp0_41)), (a_p1, .inl (cI, 12, .inl zp1_41)), (a_p2, .inl (cI, 12, .inl zp2_41)), (a_p3, .inl (cI, 12, .inl zp3_41)), (a_new, .inl (cI, 6, .inl q77))] → va_S A s.heap H locs → W p l e (rmn 1 28 1 12) s m args below meth c H locs 1 12 Q (F0 m 280 ls [])) → ∀ (ls : Array Slot) (H : Heap) (locs : List Loc), lv_has ls 13 [(0, .ref a_p0), (1, .ref a_p1), (2, .ref a_p2), (3, .ref a_p3), (4, .ref a_new), (5, .int x5_41), (6, .int x6_41), (7, .int x7_41), (8, .int x8_41)] → va_P D vwCl [(a_p0, .inl (cI, 1, .inl zp0_41)), (a_p1, .inl (cI, 12, .inl zp1_41)), (a_p2, .inl (cI, 12, .inl zp2_41)), (a_p3, .inl (cI, 12, .inl zp3_41)), (a_new, .inl (cI, 6, .inl znew_41))] H → va_D A [(a_p0, .inl (cI, 1, .inl zp0_41)), (a_p1, .inl (cI, 12, .inl zp1_41)), (a_p2, .inl (cI, 12, .inl zp2_41)), (a_p3, .inl (cI, 12, .inl zp3_41)), (a_new, .inl (cI, 6, .inl znew_41))] → va_S A s.heap H locs → W p l e (rmn 1 28 1 12) s m args below meth c H locs 1 12 Q (F0 m 41 ls []) := by
          intro x5_41 x6_41 x7_41 zp0_41 zp1_41 zp2_41 zp3_41 n_41
          induction n_41 with
          | zero => intro x8_41 znew_41 q77 h; exact no_s h
          | succ n_41 ih_41 =>
            intro x8_41 znew_41 q77 h J_41 ls H locs hl hP hD hS
            rw [f_L_won_L41] at h
            refine lv_iload hx hb dL_won_41 (lv_at hl 8 rfl) ?_
            refine lv_aload_n hx hb dL_won_43 rfl (lv_at hl 0 rfl) ?_
            refine lv_iconst (v := 0) hx hb dL_won_44 (by decide) ?_
            obtain ⟨g7, h⟩ := chk_s h
            refine va_iald hx hb hK hP 0 0 rfl rfl (gi_in g7) dL_won_45 ?_
            refine lv_icmp_gt (tgt := 280) hx hb dL_won_46 (by decide) (fun c8 => ?_) (fun c8 => ?_)
            · have h := itT h c8
              obtain rfl := Option.some.inj h
              exact J_41 _ _ _ (lv_sub hl [0, 1, 2, 3, 4, 5, 6, 7] rfl) hP hD hS
            · have h := itF h c8
              refine lv_aload hx hb dL_won_49 (lv_at hl 4 rfl) ?_
              refine lv_iconst (v := 3) hx hb dL_won_51 (by decide) ?_
              refine lv_iload hx hb dL_won_52 (lv_at hl 5 rfl) ?_
              obtain ⟨g9, h⟩ := chk_s h
              refine va_iast hx hb hK hP hD hS 4 0 rfl rfl (gi_in g9) dL_won_54 (fun H locs hP hD hS => ?_)
              have hP : va_P D vwCl [(a_p0, .inl (cI, 1, .inl zp0_41)), (a_p1, .inl (cI, 12, .inl zp1_41)), (a_p2, .inl (cI, 12, .inl zp2_41)), (a_p3, .inl (cI, 12, .inl zp3_41)), (a_new, .inl (cI, 6, .inl (upd znew_41 (Int32.toNatClampNeg 3) x5_41)))] H := hP
              have hD : va_D A [(a_p0, .inl (cI, 1, .inl zp0_41)), (a_p1, .inl (cI, 12, .inl zp1_41)), (a_p2, .inl (cI, 12, .inl zp2_41)), (a_p3, .inl (cI, 12, .inl zp3_41)), (a_new, .inl (cI, 6, .inl (upd znew_41 (Int32.toNatClampNeg 3) x5_41)))] := hD
              refine lv_iconst (v := 0) hx hb dL_won_55 (by decide) ?_
              refine lv_istore (lv' := [(9, .int 0), (0, .ref a_p0), (1, .ref a_p1), (2, .ref a_p2), (3, .ref a_p3), (4, .ref a_new), (5, .int x5_41), (6, .int x6_41), (7, .int x7_41), (8, .int x8_41)]) hx hb dL_won_56 hl (by decide) rfl (fun ls hl => ?_)
              have L_58 : ∀ (x5_58 : Int32) (x6_58 : Int32) (x7_58 : Int32) (x8_58 : Int32) (zp0_58 : Nat → Int32) (zp1_58 : Nat → Int32) (zp2_58 : Nat → Int32) (zp3_58 : Nat → Int32), ∀ (n_58 : Nat) (x9_58 : Int32) (znew_58 : Nat → Int32) (q64 : ((Nat → Int32))), f_L_won_L58 N x5_58 x6_58 zp0_58 zp1_58 zp2_58 zp3_58 n_58 x9_58 znew_58 = some q64 → (∀ (ls : Array Slot) (H : Heap) (locs : List Loc), lv_has ls 13 [(0, .ref a_p0), (1, .ref a_p1), (2, .ref a_p2), (3, .ref a_p3), (4, .ref a_new), (5, .int x5_58), (6, .int x6_58), (7, .int x7_58), (8, .int x8_58)] → va_P D vwCl [(a_p0, .inl (cI, 1, .inl zp0_58)), (a_p1, .inl (cI, 12, .inl zp1_58)), (a_p2, .inl (cI, 12, .inl zp2_58)), (a_p3, .inl (cI, 12, .inl zp3_58)), (a_new, .inl (cI, 6, .inl q64))] H → va_D A [(a_p0, .inl (cI, 1, .inl zp0_58)), (a_p1, .inl (cI, 12, .inl zp1_58)), (a_p2, .inl (cI, 12, .inl zp2_58)), (a_p3, .inl (cI, 12, .inl zp3_58)), (a_new, .inl (cI, 6, .inl q64))] → va_S A s.heap H locs → W p l e (rmn 1 28 1 12) s m args below meth c H locs 1 12 Q (F0 m 245 ls [])) → ∀ (ls : Array Slot) (H : Heap) (locs : List Loc), lv_has ls 13 [(0, .ref a_p0), (1, .ref a_p1), (2, .ref a_p2), (3, .ref a_p3), (4, .ref a_new), (5, .int x5_58), (6, .int x6_58), (7, .int x7_58), (8, .int x8_58), (9, .int x9_58)] → va_P D vwCl [(a_p0, .inl (cI, 1, .inl zp0_58)), (a_p1, .inl (cI, 12, .inl zp1_58)), (a_p2, .inl (cI, 12, .inl zp2_58)), (a_p3, .inl (cI, 12, .inl zp3_58)), (a_new, .inl (cI, 6, .inl znew_58))] H → va_D A [(a_p0, .inl (cI, 1, .inl zp0_58)), (a_p1, .inl (cI, 12, .inl zp1_58)), (a_p2, .inl (cI, 12, .inl zp2_58)), (a_p3, .inl (cI, 12, .inl zp3_58)), (a_new, .inl (cI, 6, .inl znew_58))] → va_S A s.heap H locs → W p l e (rmn 1 28 1 12) s m args below meth c H locs 1 12 Q (F0 m 58 ls []) := by
                intro x5_58 x6_58 x7_58 x8_58 zp0_58 zp1_58 zp2_58 zp3_58 n_58
                induction n_58 with
                | zero => intro x9_58 znew_58 q64 h; exact no_s h
                | succ n_58 ih_58 =>
                  intro x9_58 znew_58 q64 h J_58 ls H locs hl hP hD hS
                  rw [f_L_won_L58] at h
                  refine lv_iload hx hb dL_won_58 (lv_at hl 9 rfl) ?_
                  refine lv_aload_n hx hb dL_won_60 rfl (lv_at hl 0 rfl) ?_
                  refine lv_iconst (v := 0) hx hb dL_won_61 (by decide) ?_
                  obtain ⟨g10, h⟩ := chk_s h
                  refine va_iald hx hb hK hP 0 0 rfl rfl (gi_in g10) dL_won_62 ?_
                  refine lv_icmp_gt (tgt := 245) hx hb dL_won_63 (by decide) (fun c11 => ?_) (fun c11 => ?_)
                  · have h := itT h c11
                    obtain rfl := Option.some.inj h
                    exact J_58 _ _ _ (lv_sub hl [0, 1, 2, 3, 4, 5, 6, 7, 8] rfl) hP hD hS
                  · have h := itF h c11
                    refine lv_aload hx hb dL_won_66 (lv_at hl 4 rfl) ?_
                    refine lv_iconst (v := 2) hx hb dL_won_68 (by decide) ?_
                    refine lv_iload hx hb dL_won_69 (lv_at hl 6 rfl) ?_
                    obtain ⟨g12, h⟩ := chk_s h
                    refine va_iast hx hb hK hP hD hS 4 0 rfl rfl (gi_in g12) dL_won_71 (fun H locs hP hD hS => ?_)
                    have hP : va_P D vwCl [(a_p0, .inl (cI, 1, .inl zp0_58)), (a_p1, .inl (cI, 12, .inl zp1_58)), (a_p2, .inl (cI, 12, .inl zp2_58)), (a_p3, .inl (cI, 12, .inl zp3_58)), (a_new, .inl (cI, 6, .inl (upd znew_58 (Int32.toNatClampNeg 2) x6_58)))] H := hP
                    have hD : va_D A [(a_p0, .inl (cI, 1, .inl zp0_58)), (a_p1, .inl (cI, 12, .inl zp1_58)), (a_p2, .inl (cI, 12, .inl zp2_58)), (a_p3, .inl (cI, 12, .inl zp3_58)), (a_new, .inl (cI, 6, .inl (upd znew_58 (Int32.toNatClampNeg 2) x6_58)))] := hD
                    refine lv_iconst (v := 0) hx hb dL_won_72 (by decide) ?_
                    refine lv_istore (lv' := [(10, .int 0), (0, .ref a_p0), (1, .ref a_p1), (2, .ref a_p2), (3, .ref a_p3), (4, .ref a_new), (5, .int x5_58), (6, .int x6_58), (7, .int x7_58), (8, .int x8_58), (9, .int x9_58)]) hx hb dL_won_73 hl (by decide) rfl (fun ls hl => ?_)
                    have L_75 : ∀ (x5_75 : Int32) (x6_75 : Int32) (x7_75 : Int32) (x8_75 : Int32) (x9_75 : Int32) (zp0_75 : Nat → Int32) (zp1_75 : Nat → Int32) (zp2_75 : Nat → Int32) (zp3_75 : Nat → Int32), ∀ (n_75 : Nat) (x10_75 : Int32) (znew_75 : Nat → Int32) (q51 : ((Nat → Int32))), f_L_won_L75 N x5_75 x6_75 zp0_75 zp1_75 zp2_75 zp3_75 n_75 x10_75 znew_75 = some q51 → (∀ (ls : Array Slot) (H : Heap) (locs : List Loc), lv_has ls 13 [(0, .ref a_p0), (1, .ref a_p1), (2, .ref a_p2), (3, .ref a_p3), (4, .ref a_new), (5, .int x5_75), (6, .int x6_75), (7, .int x7_75), (8, .int x8_75), (9, .int x9_75)] → va_P D vwCl [(a_p0, .inl (cI, 1, .inl zp0_75)), (a_p1, .inl (cI, 12, .inl zp1_75)), (a_p2, .inl (cI, 12, .inl zp2_75)), (a_p3, .inl (cI, 12, .inl zp3_75)), (a_new, .inl (cI, 6, .inl q51))] H → va_D A [(a_p0, .inl (cI, 1, .inl zp0_75)), (a_p1, .inl (cI, 12, .inl zp1_75)), (a_p2, .inl (cI, 12, .inl zp2_75)), (a_p3, .inl (cI, 12, .inl zp3_75)), (a_new, .inl (cI, 6, .inl q51))] → va_S A s.heap H locs → W p l e (rmn 1 28 1 12) s m args below meth c H locs 1 12 Q (F0 m 210 ls [])) → ∀ (ls : Array Slot) (H : Heap) (locs : List Loc), lv_has ls 13 [(0, .ref a_p0), (1, .ref a_p1), (2, .ref a_p2), (3, .ref a_p3), (4, .ref a_new), (5, .int x5_75), (6, .int x6_75), (7, .int x7_75), (8, .int x8_75), (9, .int x9_75), (10, .int x10_75)] → va_P D vwCl [(a_p0, .inl (cI, 1, .inl zp0_75)), (a_p1, .inl (cI, 12, .inl zp1_75)), (a_p2, .inl (cI, 12, .inl zp2_75)), (a_p3, .inl (cI, 12, .inl zp3_75)), (a_new, .inl (cI, 6, .inl znew_75))] H → va_D A [(a_p0, .inl (cI, 1, .inl zp0_75)), (a_p1, .inl (cI, 12, .inl zp1_75)), (a_p2, .inl (cI, 12, .inl zp2_75)), (a_p3, .inl (cI, 12, .inl zp3_75)), (a_new, .inl (cI, 6, .inl znew_75))] → va_S A s.heap H locs → W p l e (rmn 1 28 1 12) s m args below meth c H locs 1 12 Q (F0 m 75 ls []) := by
                      intro x5_75 x6_75 x7_75 x8_75 x9_75 zp0_75 zp1_75 zp2_75 zp3_75 n_75
                      induction n_75 with
                      | zero => intro x10_75 znew_75 q51 h; exact no_s h
                      | succ n_75 ih_75 =>
                        intro x10_75 znew_75 q51 h J_75 ls H locs hl hP hD hS
                        rw [f_L_won_L75] at h
                        refine lv_iload hx hb dL_won_75 (lv_at hl 10 rfl) ?_
                        refine lv_aload_n hx hb dL_won_77 rfl (lv_at hl 0 rfl) ?_
                        refine lv_iconst (v := 0) hx hb dL_won_78 (by decide) ?_
                        obtain ⟨g13, h⟩ := chk_s h
                        refine va_iald hx hb hK hP 0 0 rfl rfl (gi_in g13) dL_won_79 ?_
                        refine lv_icmp_gt (tgt := 210) hx hb dL_won_80 (by decide) (fun c14 => ?_) (fun c14 => ?_)
                        · have h := itT h c14
                          obtain rfl := Option.some.inj h
                          exact J_75 _ _ _ (lv_sub hl [0, 1, 2, 3, 4, 5, 6, 7, 8, 9] rfl) hP hD hS
                        · have h := itF h c14
                          refine lv_aload hx hb dL_won_83 (lv_at hl 4 rfl) ?_
                          refine lv_iconst (v := 1) hx hb dL_won_85 (by decide) ?_
                          refine lv_iload hx hb dL_won_86 (lv_at hl 5 rfl) ?_
                          obtain ⟨g15, h⟩ := chk_s h
                          refine va_iast hx hb hK hP hD hS 4 0 rfl rfl (gi_in g15) dL_won_88 (fun H locs hP hD hS => ?_)
                          have hP : va_P D vwCl [(a_p0, .inl (cI, 1, .inl zp0_75)), (a_p1, .inl (cI, 12, .inl zp1_75)), (a_p2, .inl (cI, 12, .inl zp2_75)), (a_p3, .inl (cI, 12, .inl zp3_75)), (a_new, .inl (cI, 6, .inl (upd znew_75 (Int32.toNatClampNeg 1) x5_75)))] H := hP
                          have hD : va_D A [(a_p0, .inl (cI, 1, .inl zp0_75)), (a_p1, .inl (cI, 12, .inl zp1_75)), (a_p2, .inl (cI, 12, .inl zp2_75)), (a_p3, .inl (cI, 12, .inl zp3_75)), (a_new, .inl (cI, 6, .inl (upd znew_75 (Int32.toNatClampNeg 1) x5_75)))] := hD
                          refine lv_iconst (v := 0) hx hb dL_won_89 (by decide) ?_
                          refine lv_istore (lv' := [(11, .int 0), (0, .ref a_p0), (1, .ref a_p1), (2, .ref a_p2), (3, .ref a_p3), (4, .ref a_new), (5, .int x5_75), (6, .int x6_75), (7, .int x7_75), (8, .int x8_75), (9, .int x9_75), (10, .int x10_75)]) hx hb dL_won_90 hl (by decide) rfl (fun ls hl => ?_)
                          have L_92 : ∀ (x5_92 : Int32) (x6_92 : Int32) (x7_92 : Int32) (x8_92 : Int32) (x9_92 : Int32) (x10_92 : Int32) (zp0_92 : Nat → Int32) (zp1_92 : Nat → Int32) (zp2_92 : Nat → Int32) (zp3_92 : Nat → Int32), ∀ (n_92 : Nat) (x11_92 : Int32) (znew_92 : Nat → Int32) (q38 : ((Nat → Int32))), f_L_won_L92 N x6_92 zp0_92 zp1_92 zp2_92 zp3_92 n_92 x11_92 znew_92 = some q38 → (∀ (ls : Array Slot) (H : Heap) (locs : List Loc), lv_has ls 13 [(0, .ref a_p0), (1, .ref a_p1), (2, .ref a_p2), (3, .ref a_p3), (4, .ref a_new), (5, .int x5_92), (6, .int x6_92), (7, .int x7_92), (8, .int x8_92), (9, .int x9_92), (10, .int x10_92)] → va_P D vwCl [(a_p0, .inl (cI, 1, .inl zp0_92)), (a_p1, .inl (cI, 12, .inl zp1_92)), (a_p2, .inl (cI, 12, .inl zp2_92)), (a_p3, .inl (cI, 12, .inl zp3_92)), (a_new, .inl (cI, 6, .inl q38))] H → va_D A [(a_p0, .inl (cI, 1, .inl zp0_92)), (a_p1, .inl (cI, 12, .inl zp1_92)), (a_p2, .inl (cI, 12, .inl zp2_92)), (a_p3, .inl (cI, 12, .inl zp3_92)), (a_new, .inl (cI, 6, .inl q38))] → va_S A s.heap H locs → W p l e (rmn 1 28 1 12) s m args below meth c H locs 1 12 Q (F0 m 175 ls [])) → ∀ (ls : Array Slot) (H : Heap) (locs : List Loc), lv_has ls 13 [(0, .ref a_p0), (1, .ref a_p1), (2, .ref a_p2), (3, .ref a_p3), (4, .ref a_new), (5, .int x5_92), (6, .int x6_92), (7, .int x7_92), (8, .int x8_92), (9, .int x9_92), (10, .int x10_92), (11, .int x11_92)] → va_P D vwCl [(a_p0, .inl (cI, 1, .inl zp0_92)), (a_p1, .inl (cI, 12, .inl zp1_92)), (a_p2, .inl (cI, 12, .inl zp2_92)), (a_p3, .inl (cI, 12, .inl zp3_92)), (a_new, .inl (cI, 6, .inl znew_92))] H → va_D A [(a_p0, .inl (cI, 1, .inl zp0_92)), (a_p1, .inl (cI, 12, .inl zp1_92)), (a_p2, .inl (cI, 12, .inl zp2_92)), (a_p3, .inl (cI, 12, .inl zp3_92)), (a_new, .inl (cI, 6, .inl znew_92))] → va_S A s.heap H locs → W p l e (rmn 1 28 1 12) s m args below meth c H locs 1 12 Q (F0 m 92 ls []) := by
                            intro x5_92 x6_92 x7_92 x8_92 x9_92 x10_92 zp0_92 zp1_92 zp2_92 zp3_92 n_92
                            induction n_92 with
                            | zero => intro x11_92 znew_92 q38 h; exact no_s h
                            | succ n_92 ih_92 =>
                              intro x11_92 znew_92 q38 h J_92 ls H locs hl hP hD hS
                              rw [f_L_won_L92] at h
                              refine lv_iload hx hb dL_won_92 (lv_at hl 11 rfl) ?_
                              refine lv_aload_n hx hb dL_won_94 rfl (lv_at hl 0 rfl) ?_
                              refine lv_iconst (v := 0) hx hb dL_won_95 (by decide) ?_
                              obtain ⟨g16, h⟩ := chk_s h
                              refine va_iald hx hb hK hP 0 0 rfl rfl (gi_in g16) dL_won_96 ?_
                              refine lv_icmp_gt (tgt := 175) hx hb dL_won_97 (by decide) (fun c17 => ?_) (fun c17 => ?_)
                              · have h := itT h c17
                                obtain rfl := Option.some.inj h
                                exact J_92 _ _ _ (lv_sub hl [0, 1, 2, 3, 4, 5, 6, 7, 8, 9, 10] rfl) hP hD hS
                              · have h := itF h c17
                                refine lv_aload hx hb dL_won_100 (lv_at hl 4 rfl) ?_
                                refine lv_iconst (v := 0) hx hb dL_won_102 (by decide) ?_
                                refine lv_iload hx hb dL_won_103 (lv_at hl 6 rfl) ?_
                                obtain ⟨g18, h⟩ := chk_s h
                                refine va_iast hx hb hK hP hD hS 4 0 rfl rfl (gi_in g18) dL_won_105 (fun H locs hP hD hS => ?_)
                                have hP : va_P D vwCl [(a_p0, .inl (cI, 1, .inl zp0_92)), (a_p1, .inl (cI, 12, .inl zp1_92)), (a_p2, .inl (cI, 12, .inl zp2_92)), (a_p3, .inl (cI, 12, .inl zp3_92)), (a_new, .inl (cI, 6, .inl (upd znew_92 (Int32.toNatClampNeg 0) x6_92)))] H := hP
                                have hD : va_D A [(a_p0, .inl (cI, 1, .inl zp0_92)), (a_p1, .inl (cI, 12, .inl zp1_92)), (a_p2, .inl (cI, 12, .inl zp2_92)), (a_p3, .inl (cI, 12, .inl zp3_92)), (a_new, .inl (cI, 6, .inl (upd znew_92 (Int32.toNatClampNeg 0) x6_92)))] := hD
                                refine lv_iconst (v := (-1)) hx hb dL_won_106 (by decide) ?_
                                refine lv_istore (lv' := [(12, .int (-1)), (0, .ref a_p0), (1, .ref a_p1), (2, .ref a_p2), (3, .ref a_p3), (4, .ref a_new), (5, .int x5_92), (6, .int x6_92), (7, .int x7_92), (8, .int x8_92), (9, .int x9_92), (10, .int x10_92), (11, .int x11_92)]) hx hb dL_won_107 hl (by decide) rfl (fun ls hl => ?_)
                                have L_109 : ∀ (x5_109 : Int32) (x6_109 : Int32) (x7_109 : Int32) (x8_109 : Int32) (x9_109 : Int32) (x10_109 : Int32) (x11_109 : Int32) (zp0_109 : Nat → Int32) (zp1_109 : Nat → Int32) (zp2_109 : Nat → Int32) (zp3_109 : Nat → Int32), ∀ (n_109 : Nat) (x12_109 : Int32) (znew_109 : Nat → Int32) (q25 : ((Nat → Int32))), f_L_won_L109 N zp0_109 zp1_109 zp2_109 zp3_109 n_109 x12_109 znew_109 = some q25 → (∀ (ls : Array Slot) (H : Heap) (locs : List Loc), lv_has ls 13 [(0, .ref a_p0), (1, .ref a_p1), (2, .ref a_p2), (3, .ref a_p3), (4, .ref a_new), (5, .int x5_109), (6, .int x6_109), (7, .int x7_109), (8, .int x8_109), (9, .int x9_109), (10, .int x10_109), (11, .int x11_109)] → va_P D vwCl [(a_p0, .inl (cI, 1, .inl zp0_109)), (a_p1, .inl (cI, 12, .inl zp1_109)), (a_p2, .inl (cI, 12, .inl zp2_109)), (a_p3, .inl (cI, 12, .inl zp3_109)), (a_new, .inl (cI, 6, .inl q25))] H → va_D A [(a_p0, .inl (cI, 1, .inl zp0_109)), (a_p1, .inl (cI, 12, .inl zp1_109)), (a_p2, .inl (cI, 12, .inl zp2_109)), (a_p3, .inl (cI, 12, .inl zp3_109)), (a_new, .inl (cI, 6, .inl q25))] → va_S A s.heap H locs → W p l e (rmn 1 28 1 12) s m args below meth c H locs 1 12 Q (F0 m 140 ls [])) → ∀ (ls : Array Slot) (H : Heap) (locs : List Loc), lv_has ls 13 [(0, .ref a_p0), (1, .ref a_p1), (2, .ref a_p2), (3, .ref a_p3), (4, .ref a_new), (5, .int x5_109), (6, .int x6_109), (7, .int x7_109), (8, .int x8_109), (9, .int x9_109), (10, .int x10_109), (11, .int x11_109), (12, .int x12_109)] → va_P D vwCl [(a_p0, .inl (cI, 1, .inl zp0_109)), (a_p1, .inl (cI, 12, .inl zp1_109)), (a_p2, .inl (cI, 12, .inl zp2_109)), (a_p3, .inl (cI, 12, .inl zp3_109)), (a_new, .inl (cI, 6, .inl znew_109))] H → va_D A [(a_p0, .inl (cI, 1, .inl zp0_109)), (a_p1, .inl (cI, 12, .inl zp1_109)), (a_p2, .inl (cI, 12, .inl zp2_109)), (a_p3, .inl (cI, 12, .inl zp3_109)), (a_new, .inl (cI, 6, .inl znew_109))] → va_S A s.heap H locs → W p l e (rmn 1 28 1 12) s m args below meth c H locs 1 12 Q (F0 m 109 ls []) := by
                                  intro x5_109 x6_109 x7_109 x8_109 x9_109 x10_109 x11_109 zp0_109 zp1_109 zp2_109 zp3_109 n_109
                                  induction n_109 with
                                  | zero => intro x12_109 znew_109 q25 h; exact no_s h
                                  | succ n_109 ih_109 =>
                                    intro x12_109 znew_109 q25 h J_109 ls H locs hl hP hD hS
                                    rw [f_L_won_L109] at h
                                    refine lv_iload hx hb dL_won_109 (lv_at hl 12 rfl) ?_
                                    refine lv_aload hx hb dL_won_111 (lv_at hl 4 rfl) ?_
                                    refine lv_iconst (v := 0) hx hb dL_won_113 (by decide) ?_
                                    obtain ⟨g19, h⟩ := chk_s h
                                    refine va_iald hx hb hK hP 4 0 rfl rfl (gi_in g19) dL_won_114 ?_
                                    refine lv_icmp_eq (tgt := 140) hx hb dL_won_115 (by decide) (fun c20 => ?_) (fun c20 => ?_)
                                    · have h := itT h c20
                                      obtain rfl := Option.some.inj h
                                      exact J_109 _ _ _ (lv_sub hl [0, 1, 2, 3, 4, 5, 6, 7, 8, 9, 10, 11] rfl) hP hD hS
                                    · have h := itF h c20
                                      refine lv_aload hx hb dL_won_118 (lv_at hl 4 rfl) ?_
                                      refine lv_iconst (v := 0) hx hb dL_won_120 (by decide) ?_
                                      obtain ⟨g21, h⟩ := chk_s h
                                      refine va_iald hx hb hK hP 4 0 rfl rfl (gi_in g21) dL_won_121 ?_
                                      refine lv_istore (lv' := [(12, .int (znew_109 (Int32.toNatClampNeg 0))), (0, .ref a_p0), (1, .ref a_p1), (2, .ref a_p2), (3, .ref a_p3), (4, .ref a_new), (5, .int x5_109), (6, .int x6_109), (7, .int x7_109), (8, .int x8_109), (9, .int x9_109), (10, .int x10_109), (11, .int x11_109)]) hx hb dL_won_122 hl (by decide) rfl (fun ls hl => ?_)
                                      refine lv_aload hx hb dL_won_124 (lv_at hl 5 rfl) ?_
                                      refine lv_iconst (v := 0) hx hb dL_won_126 (by decide) ?_
                                      refine lv_aload_n hx hb dL_won_127 rfl (lv_at hl 1 rfl) ?_
                                      refine lv_aload_n hx hb dL_won_128 rfl (lv_at hl 2 rfl) ?_
                                      refine lv_aload_n hx hb dL_won_129 rfl (lv_at hl 3 rfl) ?_
                                      refine lv_aload_n hx hb dL_won_130 rfl (lv_at hl 4 rfl) ?_
                                      refine lv_aload hx hb dL_won_131 (lv_at hl 5 rfl) ?_
                                      obtain ⟨q22, hq23, h⟩ := bd h
                                      refine ksN (ws' := [(a_p0, .inl (cI, 1, .inl zp0_109)), (a_p1, .inl (cI, 12, .inl zp1_109)), (a_p2, .inl (cI, 12, .inl zp2_109)), (a_p3, .inl (cI, 12, .inl zp3_109)), (a_new, .inl (cI, 6, .inl znew_109))]) (wr := []) (rest := [.int 0, .ref a_new]) (As := [.ref a_p0, .ref a_p1, .ref a_p2, .ref a_p3, .ref a_new]) F (c_L_next l D cI cC cH a_p0 a_p1 a_p2 a_p3 a_new N zp0_109 zp1_109 zp2_109 zp3_109 znew_109 q22 hq23) yfL_next ⟨wd2_108, wd2_109⟩ hP hD hS [0, 1, 2, 3, 4] [] [0, 1, 2, 3, 4] rfl rfl (by decide) (by decide) (by decide) rfl (by decide) ⟨Nat.le_of_ble_eq_true rfl, Nat.le_of_ble_eq_true rfl, (Nat.le_of_ble_eq_true rfl), (Nat.le_of_ble_eq_true rfl)⟩ rfl hl rfl (Nat.le_of_ble_eq_true rfl) dL_won_133 (fun H locs hP hD hS => ?_)
                                      obtain ⟨g24, h⟩ := chk_s h
                                      refine va_iast hx hb hK hP hD hS 4 0 rfl rfl (gi_in g24) dL_won_136 (fun H locs hP hD hS => ?_)
                                      have hP : va_P D vwCl [(a_p0, .inl (cI, 1, .inl zp0_109)), (a_p1, .inl (cI, 12, .inl zp1_109)), (a_p2, .inl (cI, 12, .inl zp2_109)), (a_p3, .inl (cI, 12, .inl zp3_109)), (a_new, .inl (cI, 6, .inl (upd znew_109 (Int32.toNatClampNeg 0) q22)))] H := hP
                                      have hD : va_D A [(a_p0, .inl (cI, 1, .inl zp0_109)), (a_p1, .inl (cI, 12, .inl zp1_109)), (a_p2, .inl (cI, 12, .inl zp2_109)), (a_p3, .inl (cI, 12, .inl zp3_109)), (a_new, .inl (cI, 6, .inl (upd znew_109 (Int32.toNatClampNeg 0) q22)))] := hD
                                      refine lv_goto (tgt := 109) hx hb dL_won_137 (by decide) ?_
                                      exact ih_109 (znew_109 (Int32.toNatClampNeg 0)) (upd znew_109 (Int32.toNatClampNeg 0) q22) _ h J_109 _ _ _ (lv_sub hl [1, 2, 3, 4, 5, 6, 7, 8, 9, 10, 11, 12, 0] rfl) hP hD hS
                                obtain ⟨q26, hb37, h⟩ := bd h
                                refine L_109 x5_92 x6_92 x7_92 x8_92 x9_92 x10_92 x11_92 zp0_92 zp1_92 zp2_92 zp3_92 N (-1) (upd znew_92 (Int32.toNatClampNeg 0) x6_92) q26 hb37 ?_ _ _ _ (lv_sub hl [1, 2, 3, 4, 5, 6, 7, 8, 9, 10, 11, 12, 0] rfl) hP hD hS
                                intro ls H locs hl hP hD hS
                                refine lv_aload hx hb dL_won_140 (lv_at hl 4 rfl) ?_
                                refine lv_iconst (v := 1) hx hb dL_won_142 (by decide) ?_
                                obtain ⟨g27, h⟩ := chk_s h
                                refine va_iald hx hb hK hP 4 0 rfl rfl (gi_in g27) dL_won_143 ?_
                                refine lv_aload hx hb dL_won_144 (lv_at hl 4 rfl) ?_
                                refine lv_iconst (v := 0) hx hb dL_won_146 (by decide) ?_
                                obtain ⟨g28, h⟩ := chk_s h
                                refine va_iald hx hb hK hP 4 0 rfl rfl (gi_in g28) dL_won_147 ?_
                                obtain ⟨q30, hb36, h⟩ := bd h
                                have J31 : ∀ (ls : Array Slot) (H : Heap) (locs : List Loc), lv_has ls 13 [(0, .ref a_p0), (1, .ref a_p1), (2, .ref a_p2), (3, .ref a_p3), (4, .ref a_new), (5, .int x5_92), (6, .int x6_92), (7, .int x7_92), (8, .int x8_92), (9, .int x9_92), (10, .int x10_92)] → va_P D vwCl [(a_p0, .inl (cI, 1, .inl zp0_92)), (a_p1, .inl (cI, 12, .inl zp1_92)), (a_p2, .inl (cI, 12, .inl zp2_92)), (a_p3, .inl (cI, 12, .inl zp3_92)), (a_new, .inl (cI, 6, .inl q26))] H → va_D A [(a_p0, .inl (cI, 1, .inl zp0_92)), (a_p1, .inl (cI, 12, .inl zp1_92)), (a_p2, .inl (cI, 12, .inl zp2_92)), (a_p3, .inl (cI, 12, .inl zp3_92)), (a_new, .inl (cI, 6, .inl q26))] → va_S A s.heap H locs → W p l e (rmn 1 28 1 12) s m args below meth c H locs 1 12 Q (F0 m 159 ls [.int q30]) := by
                                  intro ls H locs hl hP hD hS
                                  refine lv_istore (lv' := [(11, .int q30), (0, .ref a_p0), (1, .ref a_p1), (2, .ref a_p2), (3, .ref a_p3), (4, .ref a_new), (5, .int x5_92), (6, .int x6_92), (7, .int x7_92), (8, .int x8_92), (9, .int x9_92), (10, .int x10_92)]) hx hb dL_won_159 hl (by decide) rfl (fun ls hl => ?_)
                                  refine lv_aload hx hb dL_won_161 (lv_at hl 5 rfl) ?_
                                  refine lv_iconst (v := 1) hx hb dL_won_163 (by decide) ?_
                                  refine lv_aload hx hb dL_won_164 (lv_at hl 5 rfl) ?_
                                  refine lv_iconst (v := 0) hx hb dL_won_166 (by decide) ?_
                                  obtain ⟨g34, h⟩ := chk_s h
                                  refine va_iald hx hb hK hP 4 0 rfl rfl (gi_in g34) dL_won_167 ?_
                                  obtain ⟨g35, h⟩ := chk_s h
                                  refine va_iast hx hb hK hP hD hS 4 0 rfl rfl (gi_in g35) dL_won_168 (fun H locs hP hD hS => ?_)
                                  have hP : va_P D vwCl [(a_p0, .inl (cI, 1, .inl zp0_92)), (a_p1, .inl (cI, 12, .inl zp1_92)), (a_p2, .inl (cI, 12, .inl zp2_92)), (a_p3, .inl (cI, 12, .inl zp3_92)), (a_new, .inl (cI, 6, .inl (upd q26 (Int32.toNatClampNeg 1) (q26 (Int32.toNatClampNeg 0)))))] H := hP
                                  have hD : va_D A [(a_p0, .inl (cI, 1, .inl zp0_92)), (a_p1, .inl (cI, 12, .inl zp1_92)), (a_p2, .inl (cI, 12, .inl zp2_92)), (a_p3, .inl (cI, 12, .inl zp3_92)), (a_new, .inl (cI, 6, .inl (upd q26 (Int32.toNatClampNeg 1) (q26 (Int32.toNatClampNeg 0)))))] := hD
                                  refine lv_iinc (v := q30 + 1) (lv' := [(11, .int (q30 + 1)), (0, .ref a_p0), (1, .ref a_p1), (2, .ref a_p2), (3, .ref a_p3), (4, .ref a_new), (5, .int x5_92), (6, .int x6_92), (7, .int x7_92), (8, .int x8_92), (9, .int x9_92), (10, .int x10_92)]) hx hb dL_won_169 hl (k := 0) rfl rfl (by decide) rfl (fun ls hl => ?_)
                                  refine lv_goto (tgt := 92) hx hb dL_won_172 (by decide) ?_
                                  exact ih_92 (q30 + 1) (upd q26 (Int32.toNatClampNeg 1) (q26 (Int32.toNatClampNeg 0))) _ h J_92 _ _ _ (lv_sub hl [1, 2, 3, 4, 5, 6, 7, 8, 9, 10, 11, 0] rfl) hP hD hS
                                clear h
                                have h := hb36
                                clear hb36
                                refine lv_icmp_ne (tgt := 157) hx hb dL_won_148 (by decide) (fun c29 => ?_) (fun c29 => ?_)
                                · have h := itF h c29
                                  refine lv_iload hx hb dL_won_157 (lv_at hl 11 rfl) ?_
                                  obtain rfl := Option.some.inj h
                                  exact J31 _ _ _ (lv_sub hl [0, 1, 2, 3, 4, 5, 6, 7, 8, 9, 10] rfl) hP hD hS
                                · have h := itT h c29
                                  refine lv_aload_n hx hb dL_won_151 rfl (lv_at hl 0 rfl) ?_
                                  refine lv_iconst (v := 0) hx hb dL_won_152 (by decide) ?_
                                  obtain ⟨g33, h⟩ := chk_s h
                                  refine va_iald hx hb hK hP 0 0 rfl rfl (gi_in g33) dL_won_153 ?_
                                  refine lv_goto (tgt := 159) hx hb dL_won_154 (by decide) ?_
                                  obtain rfl := Option.some.inj h
                                  exact J31 _ _ _ (lv_sub hl [0, 1, 2, 3, 4, 5, 6, 7, 8, 9, 10] rfl) hP hD hS
                          obtain ⟨q39, hb50, h⟩ := bd h
                          refine L_92 x5_75 x6_75 x7_75 x8_75 x9_75 x10_75 zp0_75 zp1_75 zp2_75 zp3_75 N 0 (upd znew_75 (Int32.toNatClampNeg 1) x5_75) q39 hb50 ?_ _ _ _ (lv_sub hl [1, 2, 3, 4, 5, 6, 7, 8, 9, 10, 11, 0] rfl) hP hD hS
                          intro ls H locs hl hP hD hS
                          refine lv_aload hx hb dL_won_175 (lv_at hl 4 rfl) ?_
                          refine lv_iconst (v := 2) hx hb dL_won_177 (by decide) ?_
                          obtain ⟨g40, h⟩ := chk_s h
                          refine va_iald hx hb hK hP 4 0 rfl rfl (gi_in g40) dL_won_178 ?_
                          refine lv_aload hx hb dL_won_179 (lv_at hl 4 rfl) ?_
                          refine lv_iconst (v := 1) hx hb dL_won_181 (by decide) ?_
                          obtain ⟨g41, h⟩ := chk_s h
                          refine va_iald hx hb hK hP 4 0 rfl rfl (gi_in g41) dL_won_182 ?_
                          obtain ⟨q43, hb49, h⟩ := bd h
                          have J44 : ∀ (ls : Array Slot) (H : Heap) (locs : List Loc), lv_has ls 13 [(0, .ref a_p0), (1, .ref a_p1), (2, .ref a_p2), (3, .ref a_p3), (4, .ref a_new), (5, .int x5_75), (6, .int x6_75), (7, .int x7_75), (8, .int x8_75), (9, .int x9_75)] → va_P D vwCl [(a_p0, .inl (cI, 1, .inl zp0_75)), (a_p1, .inl (cI, 12, .inl zp1_75)), (a_p2, .inl (cI, 12, .inl zp2_75)), (a_p3, .inl (cI, 12, .inl zp3_75)), (a_new, .inl (cI, 6, .inl q39))] H → va_D A [(a_p0, .inl (cI, 1, .inl zp0_75)), (a_p1, .inl (cI, 12, .inl zp1_75)), (a_p2, .inl (cI, 12, .inl zp2_75)), (a_p3, .inl (cI, 12, .inl zp3_75)), (a_new, .inl (cI, 6, .inl q39))] → va_S A s.heap H locs → W p l e (rmn 1 28 1 12) s m args below meth c H locs 1 12 Q (F0 m 194 ls [.int q43]) := by
                            intro ls H locs hl hP hD hS
                            refine lv_istore (lv' := [(10, .int q43), (0, .ref a_p0), (1, .ref a_p1), (2, .ref a_p2), (3, .ref a_p3), (4, .ref a_new), (5, .int x5_75), (6, .int x6_75), (7, .int x7_75), (8, .int x8_75), (9, .int x9_75)]) hx hb dL_won_194 hl (by decide) rfl (fun ls hl => ?_)
                            refine lv_aload hx hb dL_won_196 (lv_at hl 5 rfl) ?_
                            refine lv_iconst (v := 2) hx hb dL_won_198 (by decide) ?_
                            refine lv_aload hx hb dL_won_199 (lv_at hl 5 rfl) ?_
                            refine lv_iconst (v := 1) hx hb dL_won_201 (by decide) ?_
                            obtain ⟨g47, h⟩ := chk_s h
                            refine va_iald hx hb hK hP 4 0 rfl rfl (gi_in g47) dL_won_202 ?_
                            obtain ⟨g48, h⟩ := chk_s h
                            refine va_iast hx hb hK hP hD hS 4 0 rfl rfl (gi_in g48) dL_won_203 (fun H locs hP hD hS => ?_)
                            have hP : va_P D vwCl [(a_p0, .inl (cI, 1, .inl zp0_75)), (a_p1, .inl (cI, 12, .inl zp1_75)), (a_p2, .inl (cI, 12, .inl zp2_75)), (a_p3, .inl (cI, 12, .inl zp3_75)), (a_new, .inl (cI, 6, .inl (upd q39 (Int32.toNatClampNeg 2) (q39 (Int32.toNatClampNeg 1)))))] H := hP
                            have hD : va_D A [(a_p0, .inl (cI, 1, .inl zp0_75)), (a_p1, .inl (cI, 12, .inl zp1_75)), (a_p2, .inl (cI, 12, .inl zp2_75)), (a_p3, .inl (cI, 12, .inl zp3_75)), (a_new, .inl (cI, 6, .inl (upd q39 (Int32.toNatClampNeg 2) (q39 (Int32.toNatClampNeg 1)))))] := hD
                            refine lv_iinc (v := q43 + 1) (lv' := [(10, .int (q43 + 1)), (0, .ref a_p0), (1, .ref a_p1), (2, .ref a_p2), (3, .ref a_p3), (4, .ref a_new), (5, .int x5_75), (6, .int x6_75), (7, .int x7_75), (8, .int x8_75), (9, .int x9_75)]) hx hb dL_won_204 hl (k := 0) rfl rfl (by decide) rfl (fun ls hl => ?_)
                            refine lv_goto (tgt := 75) hx hb dL_won_207 (by decide) ?_
                            exact ih_75 (q43 + 1) (upd q39 (Int32.toNatClampNeg 2) (q39 (Int32.toNatClampNeg 1))) _ h J_75 _ _ _ (lv_sub hl [1, 2, 3, 4, 5, 6, 7, 8, 9, 10, 0] rfl) hP hD hS
                          clear h
                          have h := hb49
                          clear hb49
                          refine lv_icmp_ne (tgt := 192) hx hb dL_won_183 (by decide) (fun c42 => ?_) (fun c42 => ?_)
                          · have h := itF h c42
                            refine lv_iload hx hb dL_won_192 (lv_at hl 10 rfl) ?_
                            obtain rfl := Option.some.inj h
                            exact J44 _ _ _ (lv_sub hl [0, 1, 2, 3, 4, 5, 6, 7, 8, 9] rfl) hP hD hS
                          · have h := itT h c42
                            refine lv_aload_n hx hb dL_won_186 rfl (lv_at hl 0 rfl) ?_
                            refine lv_iconst (v := 0) hx hb dL_won_187 (by decide) ?_
                            obtain ⟨g46, h⟩ := chk_s h
                            refine va_iald hx hb hK hP 0 0 rfl rfl (gi_in g46) dL_won_188 ?_
                            refine lv_goto (tgt := 194) hx hb dL_won_189 (by decide) ?_
                            obtain rfl := Option.some.inj h
                            exact J44 _ _ _ (lv_sub hl [0, 1, 2, 3, 4, 5, 6, 7, 8, 9] rfl) hP hD hS
                    obtain ⟨q52, hb63, h⟩ := bd h
                    refine L_75 x5_58 x6_58 x7_58 x8_58 x9_58 zp0_58 zp1_58 zp2_58 zp3_58 N 0 (upd znew_58 (Int32.toNatClampNeg 2) x6_58) q52 hb63 ?_ _ _ _ (lv_sub hl [1, 2, 3, 4, 5, 6, 7, 8, 9, 10, 0] rfl) hP hD hS
                    intro ls H locs hl hP hD hS
                    refine lv_aload hx hb dL_won_210 (lv_at hl 4 rfl) ?_
                    refine lv_iconst (v := 3) hx hb dL_won_212 (by decide) ?_
                    obtain ⟨g53, h⟩ := chk_s h
                    refine va_iald hx hb hK hP 4 0 rfl rfl (gi_in g53) dL_won_213 ?_
                    refine lv_aload hx hb dL_won_214 (lv_at hl 4 rfl) ?_
                    refine lv_iconst (v := 2) hx hb dL_won_216 (by decide) ?_
                    obtain ⟨g54, h⟩ := chk_s h
                    refine va_iald hx hb hK hP 4 0 rfl rfl (gi_in g54) dL_won_217 ?_
                    obtain ⟨q56, hb62, h⟩ := bd h
                    have J57 : ∀ (ls : Array Slot) (H : Heap) (locs : List Loc), lv_has ls 13 [(0, .ref a_p0), (1, .ref a_p1), (2, .ref a_p2), (3, .ref a_p3), (4, .ref a_new), (5, .int x5_58), (6, .int x6_58), (7, .int x7_58), (8, .int x8_58)] → va_P D vwCl [(a_p0, .inl (cI, 1, .inl zp0_58)), (a_p1, .inl (cI, 12, .inl zp1_58)), (a_p2, .inl (cI, 12, .inl zp2_58)), (a_p3, .inl (cI, 12, .inl zp3_58)), (a_new, .inl (cI, 6, .inl q52))] H → va_D A [(a_p0, .inl (cI, 1, .inl zp0_58)), (a_p1, .inl (cI, 12, .inl zp1_58)), (a_p2, .inl (cI, 12, .inl zp2_58)), (a_p3, .inl (cI, 12, .inl zp3_58)), (a_new, .inl (cI, 6, .inl q52))] → va_S A s.heap H locs → W p l e (rmn 1 28 1 12) s m args below meth c H locs 1 12 Q (F0 m 229 ls [.int q56]) := by
                      intro ls H locs hl hP hD hS
                      refine lv_istore (lv' := [(9, .int q56), (0, .ref a_p0), (1, .ref a_p1), (2, .ref a_p2), (3, .ref a_p3), (4, .ref a_new), (5, .int x5_58), (6, .int x6_58), (7, .int x7_58), (8, .int x8_58)]) hx hb dL_won_229 hl (by decide) rfl (fun ls hl => ?_)
                      refine lv_aload hx hb dL_won_231 (lv_at hl 5 rfl) ?_
                      refine lv_iconst (v := 3) hx hb dL_won_233 (by decide) ?_
                      refine lv_aload hx hb dL_won_234 (lv_at hl 5 rfl) ?_
                      refine lv_iconst (v := 2) hx hb dL_won_236 (by decide) ?_
                      obtain ⟨g60, h⟩ := chk_s h
                      refine va_iald hx hb hK hP 4 0 rfl rfl (gi_in g60) dL_won_237 ?_
                      obtain ⟨g61, h⟩ := chk_s h
                      refine va_iast hx hb hK hP hD hS 4 0 rfl rfl (gi_in g61) dL_won_238 (fun H locs hP hD hS => ?_)
                      have hP : va_P D vwCl [(a_p0, .inl (cI, 1, .inl zp0_58)), (a_p1, .inl (cI, 12, .inl zp1_58)), (a_p2, .inl (cI, 12, .inl zp2_58)), (a_p3, .inl (cI, 12, .inl zp3_58)), (a_new, .inl (cI, 6, .inl (upd q52 (Int32.toNatClampNeg 3) (q52 (Int32.toNatClampNeg 2)))))] H := hP
                      have hD : va_D A [(a_p0, .inl (cI, 1, .inl zp0_58)), (a_p1, .inl (cI, 12, .inl zp1_58)), (a_p2, .inl (cI, 12, .inl zp2_58)), (a_p3, .inl (cI, 12, .inl zp3_58)), (a_new, .inl (cI, 6, .inl (upd q52 (Int32.toNatClampNeg 3) (q52 (Int32.toNatClampNeg 2)))))] := hD
                      refine lv_iinc (v := q56 + 1) (lv' := [(9, .int (q56 + 1)), (0, .ref a_p0), (1, .ref a_p1), (2, .ref a_p2), (3, .ref a_p3), (4, .ref a_new), (5, .int x5_58), (6, .int x6_58), (7, .int x7_58), (8, .int x8_58)]) hx hb dL_won_239 hl (k := 0) rfl rfl (by decide) rfl (fun ls hl => ?_)
                      refine lv_goto (tgt := 58) hx hb dL_won_242 (by decide) ?_
                      exact ih_58 (q56 + 1) (upd q52 (Int32.toNatClampNeg 3) (q52 (Int32.toNatClampNeg 2))) _ h J_58 _ _ _ (lv_sub hl [1, 2, 3, 4, 5, 6, 7, 8, 9, 0] rfl) hP hD hS
                    clear h
                    have h := hb62
                    clear hb62
                    refine lv_icmp_ne (tgt := 227) hx hb dL_won_218 (by decide) (fun c55 => ?_) (fun c55 => ?_)
                    · have h := itF h c55
                      refine lv_iload hx hb dL_won_227 (lv_at hl 9 rfl) ?_
                      obtain rfl := Option.some.inj h
                      exact J57 _ _ _ (lv_sub hl [0, 1, 2, 3, 4, 5, 6, 7, 8] rfl) hP hD hS
                    · have h := itT h c55
                      refine lv_aload_n hx hb dL_won_221 rfl (lv_at hl 0 rfl) ?_
                      refine lv_iconst (v := 0) hx hb dL_won_222 (by decide) ?_
                      obtain ⟨g59, h⟩ := chk_s h
                      refine va_iald hx hb hK hP 0 0 rfl rfl (gi_in g59) dL_won_223 ?_
                      refine lv_goto (tgt := 229) hx hb dL_won_224 (by decide) ?_
                      obtain rfl := Option.some.inj h
                      exact J57 _ _ _ (lv_sub hl [0, 1, 2, 3, 4, 5, 6, 7, 8] rfl) hP hD hS
              obtain ⟨q65, hb76, h⟩ := bd h
              refine L_58 x5_41 x6_41 x7_41 x8_41 zp0_41 zp1_41 zp2_41 zp3_41 N 0 (upd znew_41 (Int32.toNatClampNeg 3) x5_41) q65 hb76 ?_ _ _ _ (lv_sub hl [1, 2, 3, 4, 5, 6, 7, 8, 9, 0] rfl) hP hD hS
              intro ls H locs hl hP hD hS
              refine lv_aload hx hb dL_won_245 (lv_at hl 4 rfl) ?_
              refine lv_iconst (v := 4) hx hb dL_won_247 (by decide) ?_
              obtain ⟨g66, h⟩ := chk_s h
              refine va_iald hx hb hK hP 4 0 rfl rfl (gi_in g66) dL_won_248 ?_
              refine lv_aload hx hb dL_won_249 (lv_at hl 4 rfl) ?_
              refine lv_iconst (v := 3) hx hb dL_won_251 (by decide) ?_
              obtain ⟨g67, h⟩ := chk_s h
              refine va_iald hx hb hK hP 4 0 rfl rfl (gi_in g67) dL_won_252 ?_
              obtain ⟨q69, hb75, h⟩ := bd h
              have J70 : ∀ (ls : Array Slot) (H : Heap) (locs : List Loc), lv_has ls 13 [(0, .ref a_p0), (1, .ref a_p1), (2, .ref a_p2), (3, .ref a_p3), (4, .ref a_new), (5, .int x5_41), (6, .int x6_41), (7, .int x7_41)] → va_P D vwCl [(a_p0, .inl (cI, 1, .inl zp0_41)), (a_p1, .inl (cI, 12, .inl zp1_41)), (a_p2, .inl (cI, 12, .inl zp2_41)), (a_p3, .inl (cI, 12, .inl zp3_41)), (a_new, .inl (cI, 6, .inl q65))] H → va_D A [(a_p0, .inl (cI, 1, .inl zp0_41)), (a_p1, .inl (cI, 12, .inl zp1_41)), (a_p2, .inl (cI, 12, .inl zp2_41)), (a_p3, .inl (cI, 12, .inl zp3_41)), (a_new, .inl (cI, 6, .inl q65))] → va_S A s.heap H locs → W p l e (rmn 1 28 1 12) s m args below meth c H locs 1 12 Q (F0 m 264 ls [.int q69]) := by
                intro ls H locs hl hP hD hS
                refine lv_istore (lv' := [(8, .int q69), (0, .ref a_p0), (1, .ref a_p1), (2, .ref a_p2), (3, .ref a_p3), (4, .ref a_new), (5, .int x5_41), (6, .int x6_41), (7, .int x7_41)]) hx hb dL_won_264 hl (by decide) rfl (fun ls hl => ?_)
                refine lv_aload hx hb dL_won_266 (lv_at hl 5 rfl) ?_
                refine lv_iconst (v := 4) hx hb dL_won_268 (by decide) ?_
                refine lv_aload hx hb dL_won_269 (lv_at hl 5 rfl) ?_
                refine lv_iconst (v := 3) hx hb dL_won_271 (by decide) ?_
                obtain ⟨g73, h⟩ := chk_s h
                refine va_iald hx hb hK hP 4 0 rfl rfl (gi_in g73) dL_won_272 ?_
                obtain ⟨g74, h⟩ := chk_s h
                refine va_iast hx hb hK hP hD hS 4 0 rfl rfl (gi_in g74) dL_won_273 (fun H locs hP hD hS => ?_)
                have hP : va_P D vwCl [(a_p0, .inl (cI, 1, .inl zp0_41)), (a_p1, .inl (cI, 12, .inl zp1_41)), (a_p2, .inl (cI, 12, .inl zp2_41)), (a_p3, .inl (cI, 12, .inl zp3_41)), (a_new, .inl (cI, 6, .inl (upd q65 (Int32.toNatClampNeg 4) (q65 (Int32.toNatClampNeg 3)))))] H := hP
                have hD : va_D A [(a_p0, .inl (cI, 1, .inl zp0_41)), (a_p1, .inl (cI, 12, .inl zp1_41)), (a_p2, .inl (cI, 12, .inl zp2_41)), (a_p3, .inl (cI, 12, .inl zp3_41)), (a_new, .inl (cI, 6, .inl (upd q65 (Int32.toNatClampNeg 4) (q65 (Int32.toNatClampNeg 3)))))] := hD
                refine lv_iinc (v := q69 + 1) (lv' := [(8, .int (q69 + 1)), (0, .ref a_p0), (1, .ref a_p1), (2, .ref a_p2), (3, .ref a_p3), (4, .ref a_new), (5, .int x5_41), (6, .int x6_41), (7, .int x7_41)]) hx hb dL_won_274 hl (k := 0) rfl rfl (by decide) rfl (fun ls hl => ?_)
                refine lv_goto (tgt := 41) hx hb dL_won_277 (by decide) ?_
                exact ih_41 (q69 + 1) (upd q65 (Int32.toNatClampNeg 4) (q65 (Int32.toNatClampNeg 3))) _ h J_41 _ _ _ (lv_sub hl [1, 2, 3, 4, 5, 6, 7, 8, 0] rfl) hP hD hS
              clear h
              have h := hb75
              clear hb75
              refine lv_icmp_ne (tgt := 262) hx hb dL_won_253 (by decide) (fun c68 => ?_) (fun c68 => ?_)
              · have h := itF h c68
                refine lv_iload hx hb dL_won_262 (lv_at hl 8 rfl) ?_
                obtain rfl := Option.some.inj h
                exact J70 _ _ _ (lv_sub hl [0, 1, 2, 3, 4, 5, 6, 7] rfl) hP hD hS
              · have h := itT h c68
                refine lv_aload_n hx hb dL_won_256 rfl (lv_at hl 0 rfl) ?_
                refine lv_iconst (v := 0) hx hb dL_won_257 (by decide) ?_
                obtain ⟨g72, h⟩ := chk_s h
                refine va_iald hx hb hK hP 0 0 rfl rfl (gi_in g72) dL_won_258 ?_
                refine lv_goto (tgt := 264) hx hb dL_won_259 (by decide) ?_
                obtain rfl := Option.some.inj h
                exact J70 _ _ _ (lv_sub hl [0, 1, 2, 3, 4, 5, 6, 7] rfl) hP hD hS
        obtain ⟨q78, hb89, h⟩ := bd h
        refine L_41 x5_24 x6_24 x7_24 zp0_24 zp1_24 zp2_24 zp3_24 N 0 (upd znew_24 (Int32.toNatClampNeg 4) x6_24) q78 hb89 ?_ _ _ _ (lv_sub hl [1, 2, 3, 4, 5, 6, 7, 8, 0] rfl) hP hD hS
        intro ls H locs hl hP hD hS
        refine lv_aload hx hb dL_won_280 (lv_at hl 4 rfl) ?_
        refine lv_iconst (v := 5) hx hb dL_won_282 (by decide) ?_
        obtain ⟨g79, h⟩ := chk_s h
        refine va_iald hx hb hK hP 4 0 rfl rfl (gi_in g79) dL_won_283 ?_
        refine lv_aload hx hb dL_won_284 (lv_at hl 4 rfl) ?_
        refine lv_iconst (v := 4) hx hb dL_won_286 (by decide) ?_
        obtain ⟨g80, h⟩ := chk_s h
        refine va_iald hx hb hK hP 4 0 rfl rfl (gi_in g80) dL_won_287 ?_
        obtain ⟨q82, hb88, h⟩ := bd h
        have J83 : ∀ (ls : Array Slot) (H : Heap) (locs : List Loc), lv_has ls 13 [(0, .ref a_p0), (1, .ref a_p1), (2, .ref a_p2), (3, .ref a_p3), (4, .ref a_new), (5, .int x5_24), (6, .int x6_24)] → va_P D vwCl [(a_p0, .inl (cI, 1, .inl zp0_24)), (a_p1, .inl (cI, 12, .inl zp1_24)), (a_p2, .inl (cI, 12, .inl zp2_24)), (a_p3, .inl (cI, 12, .inl zp3_24)), (a_new, .inl (cI, 6, .inl q78))] H → va_D A [(a_p0, .inl (cI, 1, .inl zp0_24)), (a_p1, .inl (cI, 12, .inl zp1_24)), (a_p2, .inl (cI, 12, .inl zp2_24)), (a_p3, .inl (cI, 12, .inl zp3_24)), (a_new, .inl (cI, 6, .inl q78))] → va_S A s.heap H locs → W p l e (rmn 1 28 1 12) s m args below meth c H locs 1 12 Q (F0 m 299 ls [.int q82]) := by
          intro ls H locs hl hP hD hS
          refine lv_istore (lv' := [(7, .int q82), (0, .ref a_p0), (1, .ref a_p1), (2, .ref a_p2), (3, .ref a_p3), (4, .ref a_new), (5, .int x5_24), (6, .int x6_24)]) hx hb dL_won_299 hl (by decide) rfl (fun ls hl => ?_)
          refine lv_aload hx hb dL_won_301 (lv_at hl 5 rfl) ?_
          refine lv_iconst (v := 5) hx hb dL_won_303 (by decide) ?_
          refine lv_aload hx hb dL_won_304 (lv_at hl 5 rfl) ?_
          refine lv_iconst (v := 4) hx hb dL_won_306 (by decide) ?_
          obtain ⟨g86, h⟩ := chk_s h
          refine va_iald hx hb hK hP 4 0 rfl rfl (gi_in g86) dL_won_307 ?_
          obtain ⟨g87, h⟩ := chk_s h
          refine va_iast hx hb hK hP hD hS 4 0 rfl rfl (gi_in g87) dL_won_308 (fun H locs hP hD hS => ?_)
          have hP : va_P D vwCl [(a_p0, .inl (cI, 1, .inl zp0_24)), (a_p1, .inl (cI, 12, .inl zp1_24)), (a_p2, .inl (cI, 12, .inl zp2_24)), (a_p3, .inl (cI, 12, .inl zp3_24)), (a_new, .inl (cI, 6, .inl (upd q78 (Int32.toNatClampNeg 5) (q78 (Int32.toNatClampNeg 4)))))] H := hP
          have hD : va_D A [(a_p0, .inl (cI, 1, .inl zp0_24)), (a_p1, .inl (cI, 12, .inl zp1_24)), (a_p2, .inl (cI, 12, .inl zp2_24)), (a_p3, .inl (cI, 12, .inl zp3_24)), (a_new, .inl (cI, 6, .inl (upd q78 (Int32.toNatClampNeg 5) (q78 (Int32.toNatClampNeg 4)))))] := hD
          refine lv_iinc (v := q82 + 1) (lv' := [(7, .int (q82 + 1)), (0, .ref a_p0), (1, .ref a_p1), (2, .ref a_p2), (3, .ref a_p3), (4, .ref a_new), (5, .int x5_24), (6, .int x6_24)]) hx hb dL_won_309 hl (k := 0) rfl rfl (by decide) rfl (fun ls hl => ?_)
          refine lv_goto (tgt := 24) hx hb dL_won_312 (by decide) ?_
          exact ih_24 (q82 + 1) (upd q78 (Int32.toNatClampNeg 5) (q78 (Int32.toNatClampNeg 4))) _ h J_24 _ _ _ (lv_sub hl [1, 2, 3, 4, 5, 6, 7, 0] rfl) hP hD hS
        clear h
        have h := hb88
        clear hb88
        refine lv_icmp_ne (tgt := 297) hx hb dL_won_288 (by decide) (fun c81 => ?_) (fun c81 => ?_)
        · have h := itF h c81
          refine lv_iload hx hb dL_won_297 (lv_at hl 7 rfl) ?_
          obtain rfl := Option.some.inj h
          exact J83 _ _ _ (lv_sub hl [0, 1, 2, 3, 4, 5, 6] rfl) hP hD hS
        · have h := itT h c81
          refine lv_aload_n hx hb dL_won_291 rfl (lv_at hl 0 rfl) ?_
          refine lv_iconst (v := 0) hx hb dL_won_292 (by decide) ?_
          obtain ⟨g85, h⟩ := chk_s h
          refine va_iald hx hb hK hP 0 0 rfl rfl (gi_in g85) dL_won_293 ?_
          refine lv_goto (tgt := 299) hx hb dL_won_294 (by decide) ?_
          obtain rfl := Option.some.inj h
          exact J83 _ _ _ (lv_sub hl [0, 1, 2, 3, 4, 5, 6] rfl) hP hD hS
  obtain ⟨q91, hb93, h⟩ := bd h
  refine L_24 0 q1 zp0 zp1 zp2 zp3 N 0 (upd (fun _ => 0) (Int32.toNatClampNeg 5) 0) q91 hb93 ?_ _ _ _ (lv_sub hl [4, 5, 6, 7, 3, 2, 1, 0] rfl) hP hD hS
  intro ls H locs hl hP hD hS
  refine lv_aload hx hb dL_won_315 (lv_at hl 0 rfl) ?_
  refine lv_iconst (v := 5) hx hb dL_won_317 (by decide) ?_
  obtain ⟨g92, h⟩ := chk_s h
  refine va_iald hx hb hK hP 4 0 rfl rfl (gi_in g92) dL_won_318 ?_
  obtain rfl := Option.some.inj h
  exact hret _ _ _ _ _ _ _ rfl (Nat.le_refl _) (Nat.le_refl _) rfl (hP.sub [0, 1, 2, 3] rfl) (hD.sub [0, 1, 2, 3] (by decide) rfl) hS dL_won_319
