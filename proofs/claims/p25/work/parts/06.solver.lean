def f_X1_pullOnce_L6 (N : Nat) (x1_6 : Int32) (x2_6 : Int32) (x3_6 : Int32) (zp0_owners_6 : Nat → Int32) (zp0_ways_6 : Nat → Int32) (zp0_size_6 : Int32) : Nat → Int32 → Int32 → Option (Int32)
  | 0, _, _ => none
  | n_6 + 1, x4_6, x5_6 =>
    if zp0_size_6 ≤ x5_6 then (some x4_6) else (Option.bind (α := Int32) (if ((x3_6 &&& (x2_6 ^^^ (-1))) &&& ((1 : Int32) <<< (x5_6 &&& 31))) = 0 then (some (x4_6)) else (chk (gi x5_6 12) (if (((zp0_ways_6 (Int32.toNatClampNeg x5_6)) &&& x3_6) &&& x2_6) = 0 then (some (x4_6)) else (chk (gi x5_6 12) (if (zp0_owners_6 (Int32.toNatClampNeg x5_6)) = x1_6 then (some (x4_6 ||| ((1 : Int32) <<< (x5_6 &&& 31)))) else (if (((zp0_ways_6 (Int32.toNatClampNeg x5_6)) &&& x3_6) &&& x2_6) = ((zp0_ways_6 (Int32.toNatClampNeg x5_6)) &&& x3_6) then (some (x4_6 ||| ((1 : Int32) <<< (x5_6 &&& 31)))) else (some (x4_6)))))))) (fun q3 => f_X1_pullOnce_L6 N x1_6 x2_6 x3_6 zp0_owners_6 zp0_ways_6 zp0_size_6 n_6 q3 (x5_6 + 1)))
def f_X1_pullOnce (N : Nat) (x1 : Int32) (x2 : Int32) (x3 : Int32) (zp0_owners : Nat → Int32) (zp0_ways : Nat → Int32) (zp0_size : Int32) : Option (Int32) :=
    Option.bind (f_X1_pullOnce_L6 N x1 x2 x3 zp0_owners zp0_ways zp0_size N x2 0) (fun q13 => some q13)
set_option maxHeartbeats 4000000 in
set_option maxRecDepth 100000 in
theorem c_X1_pullOnce (l : Launch) (D : va_G) (cI cC cH : ClassId) (a_p0 : Nat) (a_p0_owners : Nat) (a_p0_ranks : Nat) (a_p0_ways : Nat) (N : Nat) (x1 : Int32) (x2 : Int32) (x3 : Int32) (zp0_owners : Nat → Int32) (zp0_ways : Nat → Int32) (zp0_size : Int32) (y : Int32) (h : f_X1_pullOnce N x1 x2 x3 zp0_owners zp0_ways zp0_size = some y) : CTi l yX1_pullOnce cX1_pullOnce 8 (some .int) 0 0 D (tyL cI cC cH) [.ref a_p0, .int x1, .int x2, .int x3] [(a_p0, .inr (0, [.ref a_p0_owners, .ref a_p0_ranks, .ref a_p0_ways, .int zp0_size])), (a_p0_owners, .inl (cI, 12, .inl zp0_owners)), (a_p0_ways, .inl (cI, 12, .inl zp0_ways))] [(a_p0, .inr (0, [.ref a_p0_owners, .ref a_p0_ranks, .ref a_p0_ways, .int zp0_size])), (a_p0_owners, .inl (cI, 12, .inl zp0_owners)), (a_p0_ways, .inl (cI, 12, .inl zp0_ways))] y := by
  unfold f_X1_pullOnce at h
  refine ctI (by decide) (Nat.le_of_ble_eq_true rfl) ?_
  intro p e s m args below meth c A Q ls F hret hP hD hS hl
  have hx := F.1
  have hb := F.2.1
  have hown : s.vm.findClass RX1 = some m.cls := F.2.2.2.1
  have hts := F.2.2.2.2.1
  have hN := F.2.2.2.2.2.1
  have hK := F.2.2.2.2.2.2.1
  have hl : lv_has ls 8 [(0, .ref a_p0), (1, .int x1), (2, .int x2), (3, .int x3)] := hl
  refine lv_iload_n hx hb dX1_pullOnce_0 rfl (lv_at hl 2 rfl) ?_
  refine lv_istore (lv' := [(4, .int x2), (0, .ref a_p0), (1, .int x1), (2, .int x2), (3, .int x3)]) hx hb dX1_pullOnce_1 hl (by decide) rfl (fun ls hl => ?_)
  refine lv_iconst (v := 0) hx hb dX1_pullOnce_3 (by decide) ?_
  refine lv_istore (lv' := [(5, .int 0), (4, .int x2), (0, .ref a_p0), (1, .int x1), (2, .int x2), (3, .int x3)]) hx hb dX1_pullOnce_4 hl (by decide) rfl (fun ls hl => ?_)
  have L_6 : ∀ (x1_6 : Int32) (x2_6 : Int32) (x3_6 : Int32) (zp0_owners_6 : Nat → Int32) (zp0_ways_6 : Nat → Int32) (zp0_size_6 : Int32), ∀ (n_6 : Nat) (x4_6 : Int32) (x5_6 : Int32) (q12 : (Int32)), f_X1_pullOnce_L6 N x1_6 x2_6 x3_6 zp0_owners_6 zp0_ways_6 zp0_size_6 n_6 x4_6 x5_6 = some q12 → (∀ (ls : Array Slot) (H : Heap) (locs : List Loc), lv_has ls 8 [(4, .int q12)] → va_P D vwCl [(a_p0, .inr (0, [.ref a_p0_owners, .ref a_p0_ranks, .ref a_p0_ways, .int zp0_size_6])), (a_p0_owners, .inl (cI, 12, .inl zp0_owners_6)), (a_p0_ways, .inl (cI, 12, .inl zp0_ways_6))] H → va_D A [(a_p0, .inr (0, [.ref a_p0_owners, .ref a_p0_ranks, .ref a_p0_ways, .int zp0_size_6])), (a_p0_owners, .inl (cI, 12, .inl zp0_owners_6)), (a_p0_ways, .inl (cI, 12, .inl zp0_ways_6))] → va_S A s.heap H locs → W p l e (rmm 0 0) s m args below meth c H locs 0 0 Q (F0 m 83 ls [])) → ∀ (ls : Array Slot) (H : Heap) (locs : List Loc), lv_has ls 8 [(0, .ref a_p0), (1, .int x1_6), (2, .int x2_6), (3, .int x3_6), (4, .int x4_6), (5, .int x5_6)] → va_P D vwCl [(a_p0, .inr (0, [.ref a_p0_owners, .ref a_p0_ranks, .ref a_p0_ways, .int zp0_size_6])), (a_p0_owners, .inl (cI, 12, .inl zp0_owners_6)), (a_p0_ways, .inl (cI, 12, .inl zp0_ways_6))] H → va_D A [(a_p0, .inr (0, [.ref a_p0_owners, .ref a_p0_ranks, .ref a_p0_ways, .int zp0_size_6])), (a_p0_owners, .inl (cI, 12, .inl zp0_owners_6)), (a_p0_ways, .inl (cI, 12, .inl zp0_ways_6))] → va_S A s.heap H locs → W p l e (rmm 0 0) s m args below meth c H locs 0 0 Q (F0 m 6 ls []) := by
    intro x1_6 x2_6 x3_6 zp0_owners_6 zp0_ways_6 zp0_size_6 n_6
    induction n_6 with
    | zero => intro x4_6 x5_6 q12 h; exact no_s h
    | succ n_6 ih_6 =>
      intro x4_6 x5_6 q12 h J_6 ls H locs hl hP hD hS
      rw [f_X1_pullOnce_L6] at h
      refine lv_iload hx hb dX1_pullOnce_6 (lv_at hl 5 rfl) ?_
      refine lv_aload_n hx hb dX1_pullOnce_8 rfl (lv_at hl 0 rfl) ?_
      refine va_get (D := D) (ci := 0) (v := .int zp0_size_6) (C := RX0) (T := TX0) (N := 4) hx hb hts inG0 hown hK hP 0 rfl rfl 3 (by decide) (hts _ wd1_33) (fun _ h9 => h9) rfl dX1_pullOnce_9 ?_
      refine lv_icmp_ge (tgt := 83) hx hb dX1_pullOnce_12 (by decide) (fun c1 => ?_) (fun c1 => ?_)
      · have h := itT h c1
        obtain rfl := Option.some.inj h
        exact J_6 _ _ _ (lv_sub hl [4] rfl) hP hD hS
      · have h := itF h c1
        refine lv_iload_n hx hb dX1_pullOnce_15 rfl (lv_at hl 3 rfl) ?_
        refine lv_iload_n hx hb dX1_pullOnce_16 rfl (lv_at hl 2 rfl) ?_
        refine lv_iconst (v := (-1)) hx hb dX1_pullOnce_17 (by decide) ?_
        refine lv_ixor hx hb dX1_pullOnce_18 ?_
        refine lv_iand hx hb dX1_pullOnce_19 ?_
        refine lv_iconst (v := 1) hx hb dX1_pullOnce_20 (by decide) ?_
        refine lv_iload hx hb dX1_pullOnce_21 (lv_at hl 5 rfl) ?_
        refine lv_ishl hx hb dX1_pullOnce_23 ?_
        refine lv_iand hx hb dX1_pullOnce_24 ?_
        obtain ⟨q3, hb11, h⟩ := bd h
        have J4 : ∀ (ls : Array Slot) (H : Heap) (locs : List Loc), lv_has ls 8 [(0, .ref a_p0), (1, .int x1_6), (2, .int x2_6), (3, .int x3_6), (4, .int q3), (5, .int x5_6)] → va_P D vwCl [(a_p0, .inr (0, [.ref a_p0_owners, .ref a_p0_ranks, .ref a_p0_ways, .int zp0_size_6])), (a_p0_owners, .inl (cI, 12, .inl zp0_owners_6)), (a_p0_ways, .inl (cI, 12, .inl zp0_ways_6))] H → va_D A [(a_p0, .inr (0, [.ref a_p0_owners, .ref a_p0_ranks, .ref a_p0_ways, .int zp0_size_6])), (a_p0_owners, .inl (cI, 12, .inl zp0_owners_6)), (a_p0_ways, .inl (cI, 12, .inl zp0_ways_6))] → va_S A s.heap H locs → W p l e (rmm 0 0) s m args below meth c H locs 0 0 Q (F0 m 77 ls []) := by
          intro ls H locs hl hP hD hS
          refine lv_iinc (v := x5_6 + 1) (lv' := [(5, .int (x5_6 + 1)), (0, .ref a_p0), (1, .int x1_6), (2, .int x2_6), (3, .int x3_6), (4, .int q3)]) hx hb dX1_pullOnce_77 hl (k := 5) rfl rfl (by decide) rfl (fun ls hl => ?_)
          refine lv_goto (tgt := 6) hx hb dX1_pullOnce_80 (by decide) ?_
          exact ih_6 q3 (x5_6 + 1) _ h J_6 _ _ _ (lv_sub hl [1, 2, 3, 4, 5, 0] rfl) hP hD hS
        clear h
        have h := hb11
        clear hb11
        refine lv_if_eq (tgt := 77) hx hb dX1_pullOnce_25 (by decide) (fun c2 => ?_) (fun c2 => ?_)
        · have h := itT h c2
          obtain rfl := Option.some.inj h
          exact J4 _ _ _ (lv_sub hl [0, 1, 2, 3, 4, 5] rfl) hP hD hS
        · have h := itF h c2
          refine lv_aload_n hx hb dX1_pullOnce_28 rfl (lv_at hl 0 rfl) ?_
          refine va_get (D := D) (ci := 0) (v := .ref a_p0_ways) (C := RX0) (T := TX0) (N := 4) hx hb hts inG0 hown hK hP 0 rfl rfl 2 (by decide) (hts _ wd1_27) (fun _ h9 => h9) rfl dX1_pullOnce_29 ?_
          refine lv_iload hx hb dX1_pullOnce_32 (lv_at hl 5 rfl) ?_
          obtain ⟨g6, h⟩ := chk_s h
          refine va_iald hx hb hK hP 2 0 rfl rfl (gi_in g6) dX1_pullOnce_34 ?_
          refine lv_iload_n hx hb dX1_pullOnce_35 rfl (lv_at hl 3 rfl) ?_
          refine lv_iand hx hb dX1_pullOnce_36 ?_
          refine lv_istore (lv' := [(6, .int ((zp0_ways_6 (Int32.toNatClampNeg x5_6)) &&& x3_6)), (0, .ref a_p0), (1, .int x1_6), (2, .int x2_6), (3, .int x3_6), (4, .int x4_6), (5, .int x5_6)]) hx hb dX1_pullOnce_37 hl (by decide) rfl (fun ls hl => ?_)
          refine lv_iload hx hb dX1_pullOnce_39 (lv_at hl 0 rfl) ?_
          refine lv_iload_n hx hb dX1_pullOnce_41 rfl (lv_at hl 3 rfl) ?_
          refine lv_iand hx hb dX1_pullOnce_42 ?_
          refine lv_istore (lv' := [(7, .int (((zp0_ways_6 (Int32.toNatClampNeg x5_6)) &&& x3_6) &&& x2_6)), (6, .int ((zp0_ways_6 (Int32.toNatClampNeg x5_6)) &&& x3_6)), (0, .ref a_p0), (1, .int x1_6), (2, .int x2_6), (3, .int x3_6), (4, .int x4_6), (5, .int x5_6)]) hx hb dX1_pullOnce_43 hl (by decide) rfl (fun ls hl => ?_)
          refine lv_iload hx hb dX1_pullOnce_45 (lv_at hl 0 rfl) ?_
          refine lv_if_eq (tgt := 77) hx hb dX1_pullOnce_47 (by decide) (fun c7 => ?_) (fun c7 => ?_)
          · have h := itT h c7
            obtain rfl := Option.some.inj h
            exact J4 _ _ _ (lv_sub hl [2, 3, 4, 5, 6, 7] rfl) hP hD hS
          · have h := itF h c7
            refine lv_aload_n hx hb dX1_pullOnce_50 rfl (lv_at hl 2 rfl) ?_
            refine va_get (D := D) (ci := 0) (v := .ref a_p0_owners) (C := RX0) (T := TX0) (N := 4) hx hb hts inG0 hown hK hP 0 rfl rfl 0 (by decide) (hts _ wd1_23) (fun _ h9 => h9) rfl dX1_pullOnce_51 ?_
            refine lv_iload hx hb dX1_pullOnce_54 (lv_at hl 7 rfl) ?_
            obtain ⟨g8, h⟩ := chk_s h
            refine va_iald hx hb hK hP 1 0 rfl rfl (gi_in g8) dX1_pullOnce_56 ?_
            refine lv_iload_n hx hb dX1_pullOnce_57 rfl (lv_at hl 3 rfl) ?_
            refine lv_icmp_eq (tgt := 68) hx hb dX1_pullOnce_58 (by decide) (fun c9 => ?_) (fun c9 => ?_)
            · have h := itT h c9
              refine lv_iload hx hb dX1_pullOnce_68 (lv_at hl 6 rfl) ?_
              refine lv_iconst (v := 1) hx hb dX1_pullOnce_70 (by decide) ?_
              refine lv_iload hx hb dX1_pullOnce_71 (lv_at hl 7 rfl) ?_
              refine lv_ishl hx hb dX1_pullOnce_73 ?_
              refine lv_ior hx hb dX1_pullOnce_74 ?_
              refine lv_istore (lv' := [(4, .int (x4_6 ||| ((1 : Int32) <<< (x5_6 &&& 31)))), (7, .int (((zp0_ways_6 (Int32.toNatClampNeg x5_6)) &&& x3_6) &&& x2_6)), (6, .int ((zp0_ways_6 (Int32.toNatClampNeg x5_6)) &&& x3_6)), (0, .ref a_p0), (1, .int x1_6), (2, .int x2_6), (3, .int x3_6), (5, .int x5_6)]) hx hb dX1_pullOnce_75 hl (by decide) rfl (fun ls hl => ?_)
              obtain rfl := Option.some.inj h
              exact J4 _ _ _ (lv_sub hl [3, 4, 5, 6, 0, 7] rfl) hP hD hS
            · have h := itF h c9
              refine lv_iload hx hb dX1_pullOnce_61 (lv_at hl 0 rfl) ?_
              refine lv_iload hx hb dX1_pullOnce_63 (lv_at hl 1 rfl) ?_
              refine lv_icmp_ne (tgt := 77) hx hb dX1_pullOnce_65 (by decide) (fun c10 => ?_) (fun c10 => ?_)
              · have h := itF h c10
                obtain rfl := Option.some.inj h
                exact J4 _ _ _ (lv_sub hl [2, 3, 4, 5, 6, 7] rfl) hP hD hS
              · have h := itT h c10
                refine lv_iload hx hb dX1_pullOnce_68 (lv_at hl 6 rfl) ?_
                refine lv_iconst (v := 1) hx hb dX1_pullOnce_70 (by decide) ?_
                refine lv_iload hx hb dX1_pullOnce_71 (lv_at hl 7 rfl) ?_
                refine lv_ishl hx hb dX1_pullOnce_73 ?_
                refine lv_ior hx hb dX1_pullOnce_74 ?_
                refine lv_istore (lv' := [(4, .int (x4_6 ||| ((1 : Int32) <<< (x5_6 &&& 31)))), (7, .int (((zp0_ways_6 (Int32.toNatClampNeg x5_6)) &&& x3_6) &&& x2_6)), (6, .int ((zp0_ways_6 (Int32.toNatClampNeg x5_6)) &&& x3_6)), (0, .ref a_p0), (1, .int x1_6), (2, .int x2_6), (3, .int x3_6), (5, .int x5_6)]) hx hb dX1_pullOnce_75 hl (by decide) rfl (fun ls hl => ?_)
                obtain rfl := Option.some.inj h
                exact J4 _ _ _ (lv_sub hl [3, 4, 5, 6, 0, 7] rfl) hP hD hS
  obtain ⟨q13, hb14, h⟩ := bd h
  refine L_6 x1 x2 x3 zp0_owners zp0_ways zp0_size N x2 0 q13 hb14 ?_ _ _ _ (lv_sub hl [2, 3, 4, 5, 1, 0] rfl) hP hD hS
  intro ls H locs hl hP hD hS
  refine lv_iload hx hb dX1_pullOnce_83 (lv_at hl 0 rfl) ?_
  obtain rfl := Option.some.inj h
  exact hret _ _ _ _ _ rfl hP hD hS dX1_pullOnce_85
def f_X1_pull_L6 (N : Nat) (x1_6 : Int32) (x3_6 : Int32) (zp0_owners_6 : Nat → Int32) (zp0_ways_6 : Nat → Int32) (zp0_size_6 : Int32) : Nat → Int32 → Int32 → Option (Int32)
  | 0, _, _ => none
  | n_6 + 1, x4_6, x5_6 =>
    if 12 ≤ x5_6 then (some x4_6) else (Option.bind (f_X1_pullOnce N x1_6 x4_6 x3_6 zp0_owners_6 zp0_ways_6 zp0_size_6) (fun q2 => if q2 = x4_6 then (some x4_6) else (f_X1_pull_L6 N x1_6 x3_6 zp0_owners_6 zp0_ways_6 zp0_size_6 n_6 q2 (x5_6 + 1))))
def f_X1_pull (N : Nat) (x1 : Int32) (x2 : Int32) (x3 : Int32) (zp0_owners : Nat → Int32) (zp0_ways : Nat → Int32) (zp0_size : Int32) : Option (Int32) :=
    Option.bind (f_X1_pull_L6 N x1 x3 zp0_owners zp0_ways zp0_size N x2 0) (fun q6 => some q6)
set_option maxHeartbeats 4000000 in
set_option maxRecDepth 100000 in
theorem c_X1_pull (l : Launch) (D : va_G) (cI cC cH : ClassId) (a_p0 : Nat) (a_p0_owners : Nat) (a_p0_ranks : Nat) (a_p0_ways : Nat) (N : Nat) (x1 : Int32) (x2 : Int32) (x3 : Int32) (zp0_owners : Nat → Int32) (zp0_ways : Nat → Int32) (zp0_size : Int32) (y : Int32) (h : f_X1_pull N x1 x2 x3 zp0_owners zp0_ways zp0_size = some y) : CTi l yX1_pull cX1_pull 7 (some .int) 1 27 D (tyL cI cC cH) [.ref a_p0, .int x1, .int x2, .int x3] [(a_p0, .inr (0, [.ref a_p0_owners, .ref a_p0_ranks, .ref a_p0_ways, .int zp0_size])), (a_p0_owners, .inl (cI, 12, .inl zp0_owners)), (a_p0_ways, .inl (cI, 12, .inl zp0_ways))] [(a_p0, .inr (0, [.ref a_p0_owners, .ref a_p0_ranks, .ref a_p0_ways, .int zp0_size])), (a_p0_owners, .inl (cI, 12, .inl zp0_owners)), (a_p0_ways, .inl (cI, 12, .inl zp0_ways))] y := by
  unfold f_X1_pull at h
  refine ctI (by decide) (Nat.le_of_ble_eq_true rfl) ?_
  intro p e s m args below meth c A Q ls F hret hP hD hS hl
  have hx := F.1
  have hb := F.2.1
  have hown : s.vm.findClass RX1 = some m.cls := F.2.2.2.1
  have hts := F.2.2.2.2.1
  have hN := F.2.2.2.2.2.1
  have hK := F.2.2.2.2.2.2.1
  have hl : lv_has ls 7 [(0, .ref a_p0), (1, .int x1), (2, .int x2), (3, .int x3)] := hl
  refine lv_iload_n hx hb dX1_pull_0 rfl (lv_at hl 2 rfl) ?_
  refine lv_istore (lv' := [(4, .int x2), (0, .ref a_p0), (1, .int x1), (2, .int x2), (3, .int x3)]) hx hb dX1_pull_1 hl (by decide) rfl (fun ls hl => ?_)
  refine lv_iconst (v := 0) hx hb dX1_pull_3 (by decide) ?_
  refine lv_istore (lv' := [(5, .int 0), (4, .int x2), (0, .ref a_p0), (1, .int x1), (2, .int x2), (3, .int x3)]) hx hb dX1_pull_4 hl (by decide) rfl (fun ls hl => ?_)
  have L_6 : ∀ (x1_6 : Int32) (x3_6 : Int32) (zp0_owners_6 : Nat → Int32) (zp0_ways_6 : Nat → Int32) (zp0_size_6 : Int32), ∀ (n_6 : Nat) (x4_6 : Int32) (x5_6 : Int32) (q5 : (Int32)), f_X1_pull_L6 N x1_6 x3_6 zp0_owners_6 zp0_ways_6 zp0_size_6 n_6 x4_6 x5_6 = some q5 → (∀ (ls : Array Slot) (H : Heap) (locs : List Loc), lv_has ls 7 [(4, .int q5)] → va_P D vwCl [(a_p0, .inr (0, [.ref a_p0_owners, .ref a_p0_ranks, .ref a_p0_ways, .int zp0_size_6])), (a_p0_owners, .inl (cI, 12, .inl zp0_owners_6)), (a_p0_ways, .inl (cI, 12, .inl zp0_ways_6))] H → va_D A [(a_p0, .inr (0, [.ref a_p0_owners, .ref a_p0_ranks, .ref a_p0_ways, .int zp0_size_6])), (a_p0_owners, .inl (cI, 12, .inl zp0_owners_6)), (a_p0_ways, .inl (cI, 12, .inl zp0_ways_6))] → va_S A s.heap H locs → W p l e (rmm 1 27) s m args below meth c H locs 0 0 Q (F0 m 43 ls [])) → ∀ (ls : Array Slot) (H : Heap) (locs : List Loc), lv_has ls 7 [(0, .ref a_p0), (1, .int x1_6), (3, .int x3_6), (4, .int x4_6), (5, .int x5_6)] → va_P D vwCl [(a_p0, .inr (0, [.ref a_p0_owners, .ref a_p0_ranks, .ref a_p0_ways, .int zp0_size_6])), (a_p0_owners, .inl (cI, 12, .inl zp0_owners_6)), (a_p0_ways, .inl (cI, 12, .inl zp0_ways_6))] H → va_D A [(a_p0, .inr (0, [.ref a_p0_owners, .ref a_p0_ranks, .ref a_p0_ways, .int zp0_size_6])), (a_p0_owners, .inl (cI, 12, .inl zp0_owners_6)), (a_p0_ways, .inl (cI, 12, .inl zp0_ways_6))] → va_S A s.heap H locs → W p l e (rmm 1 27) s m args below meth c H locs 0 0 Q (F0 m 6 ls []) := by
    intro x1_6 x3_6 zp0_owners_6 zp0_ways_6 zp0_size_6 n_6
    induction n_6 with
    | zero => intro x4_6 x5_6 q5 h; exact no_s h
    | succ n_6 ih_6 =>
      intro x4_6 x5_6 q5 h J_6 ls H locs hl hP hD hS
      rw [f_X1_pull_L6] at h
      refine lv_iload hx hb dX1_pull_6 (lv_at hl 4 rfl) ?_
      refine lv_bipush (v := 12) hx hb dX1_pull_8 (by decide) ?_
      refine lv_icmp_ge (tgt := 43) hx hb dX1_pull_10 (by decide) (fun c1 => ?_) (fun c1 => ?_)
      · have h := itT h c1
        obtain rfl := Option.some.inj h
        exact J_6 _ _ _ (lv_sub hl [3] rfl) hP hD hS
      · have h := itF h c1
        refine lv_aload_n hx hb dX1_pull_13 rfl (lv_at hl 0 rfl) ?_
        refine lv_iload_n hx hb dX1_pull_14 rfl (lv_at hl 1 rfl) ?_
        refine lv_iload hx hb dX1_pull_15 (lv_at hl 3 rfl) ?_
        refine lv_iload_n hx hb dX1_pull_17 rfl (lv_at hl 2 rfl) ?_
        obtain ⟨q2, hq3, h⟩ := bd h
        refine ksI (ws' := [(a_p0, .inr (0, [.ref a_p0_owners, .ref a_p0_ranks, .ref a_p0_ways, .int zp0_size_6])), (a_p0_owners, .inl (cI, 12, .inl zp0_owners_6)), (a_p0_ways, .inl (cI, 12, .inl zp0_ways_6))]) (wr := []) (As := [.ref a_p0, .int x1_6, .int x4_6, .int x3_6]) F (c_X1_pullOnce l D cI cC cH a_p0 a_p0_owners a_p0_ranks a_p0_ways N x1_6 x4_6 x3_6 zp0_owners_6 zp0_ways_6 zp0_size_6 q2 hq3) yfX1_pullOnce ⟨wd1_153, wd1_154⟩ hP hD hS [0, 1, 2] [] [0, 1, 2] rfl rfl (by decide) (by decide) (by decide) rfl (by decide) ⟨Nat.le_of_ble_eq_true rfl, Nat.le_of_ble_eq_true rfl, Nat.zero_le _, Nat.zero_le _⟩ rfl hl rfl (Nat.le_of_ble_eq_true rfl) dX1_pull_18 (fun H locs hP hD hS => ?_)
        refine lv_istore (lv' := [(6, .int q2), (0, .ref a_p0), (1, .int x1_6), (3, .int x3_6), (4, .int x4_6), (5, .int x5_6)]) hx hb dX1_pull_21 hl (by decide) rfl (fun ls hl => ?_)
        refine lv_iload hx hb dX1_pull_23 (lv_at hl 0 rfl) ?_
        refine lv_iload hx hb dX1_pull_25 (lv_at hl 4 rfl) ?_
        refine lv_icmp_ne (tgt := 33) hx hb dX1_pull_27 (by decide) (fun c4 => ?_) (fun c4 => ?_)
        · have h := itF h c4
          refine lv_iload hx hb dX1_pull_33 (lv_at hl 0 rfl) ?_
          refine lv_istore (lv' := [(4, .int q2), (6, .int q2), (0, .ref a_p0), (1, .int x1_6), (3, .int x3_6), (5, .int x5_6)]) hx hb dX1_pull_35 hl (by decide) rfl (fun ls hl => ?_)
          refine lv_iinc (v := x5_6 + 1) (lv' := [(5, .int (x5_6 + 1)), (4, .int q2), (6, .int q2), (0, .ref a_p0), (1, .int x1_6), (3, .int x3_6)]) hx hb dX1_pull_37 hl (k := 5) rfl rfl (by decide) rfl (fun ls hl => ?_)
          refine lv_goto (tgt := 6) hx hb dX1_pull_40 (by decide) ?_
          exact ih_6 q2 (x5_6 + 1) _ h J_6 _ _ _ (lv_sub hl [3, 4, 5, 1, 0] rfl) hP hD hS
        · have h := itT h c4
          refine lv_goto (tgt := 43) hx hb dX1_pull_30 (by decide) ?_
          obtain rfl := Option.some.inj h
          exact J_6 _ _ _ (lv_sub hl [4] rfl) hP hD hS
  obtain ⟨q6, hb7, h⟩ := bd h
  refine L_6 x1 x3 zp0_owners zp0_ways zp0_size N x2 0 q6 hb7 ?_ _ _ _ (lv_sub hl [2, 3, 5, 1, 0] rfl) hP hD hS
  intro ls H locs hl hP hD hS
  refine lv_iload hx hb dX1_pull_43 (lv_at hl 0 rfl) ?_
  obtain rfl := Option.some.inj h
  exact hret _ _ _ _ _ rfl hP hD hS dX1_pull_45
def f_X1_winsWithin_L34 (N : Nat) (rec : Int32 → Int32 → Int32 → (Nat → Int32) → (Nat → Int32) → (Nat → Int32) → Int32 → Option (Int32)) (x3_34 : Int32) (x4_34 : Int32) (x5_34 : Int32) (x6_34 : Int32) (zp0_owners_34 : Nat → Int32) (zp0_ranks_34 : Nat → Int32) (zp0_ways_34 : Nat → Int32) (zp0_size_34 : Int32) : Nat → Int32 → Int32 → Option (Int32)
  | 0, _, _ => none
  | n_34 + 1, x7_34, x8_34 =>
    if 12 < x8_34 then (some x7_34) else (if (x7_34 &&& x4_34) = 0 then (Option.bind (rec x5_34 x7_34 (x3_34 - 1) zp0_owners_34 zp0_ranks_34 zp0_ways_34 zp0_size_34) (fun q14 => some q14)) else (Option.bind (f_X1_pull N x5_34 (x7_34 &&& x4_34) x7_34 zp0_owners_34 zp0_ways_34 zp0_size_34) (fun q7 => Option.bind (rec x6_34 (x7_34 &&& (q7 ^^^ (-1))) (x3_34 - 1) zp0_owners_34 zp0_ranks_34 zp0_ways_34 zp0_size_34) (fun q9 => if q9 = 0 then (some x7_34) else (Option.bind (f_X1_pull N x6_34 q9 x7_34 zp0_owners_34 zp0_ways_34 zp0_size_34) (fun q12 => f_X1_winsWithin_L34 N rec x3_34 x4_34 x5_34 x6_34 zp0_owners_34 zp0_ranks_34 zp0_ways_34 zp0_size_34 n_34 (x7_34 &&& (q12 ^^^ (-1))) (x8_34 + 1)))))))
def f_X1_winsWithin (N : Nat) : Nat → Int32 → Int32 → Int32 → (Nat → Int32) → (Nat → Int32) → (Nat → Int32) → Int32 → Option (Int32)
  | 0, _, _, _, _, _, _, _ => none
  | d + 1, x1, x2, x3, zp0_owners, zp0_ranks, zp0_ways, zp0_size =>
    if x2 = 0 then (some 0) else (if 0 ≤ x3 then (Option.bind (f_X0_ranked N x3 zp0_ranks zp0_size) (fun q3 => Option.bind (f_X1_winsWithin_L34 N (f_X1_winsWithin N d) x3 q3 (x3 - x3 / 2 * 2) (1 - (x3 - x3 / 2 * 2)) zp0_owners zp0_ranks zp0_ways zp0_size N x2 0) (fun q17 => if x1 = (x3 - x3 / 2 * 2) then (some q17) else (some (x2 &&& (q17 ^^^ (-1))))))) else (some 0))
set_option maxHeartbeats 4000000 in
set_option maxRecDepth 100000 in
theorem c_X1_winsWithin (l : Launch) (D : va_G) (cI cC cH : ClassId) (a_p0 : Nat) (a_p0_owners : Nat) (a_p0_ranks : Nat) (a_p0_ways : Nat) (N : Nat) : ∀ (d : Nat) (x1 : Int32) (x2 : Int32) (x3 : Int32) (zp0_owners : Nat → Int32) (zp0_ranks : Nat → Int32) (zp0_ways : Nat → Int32) (zp0_size : Int32) (y : Int32) (h : f_X1_winsWithin N d x1 x2 x3 zp0_owners zp0_ranks zp0_ways zp0_size = some y), CTi l yX1_winsWithin cX1_winsWithin 11 (some .int) (2 + d) (53 + 40 * d) D (tyL cI cC cH) [.ref a_p0, .int x1, .int x2, .int x3] [(a_p0, .inr (0, [.ref a_p0_owners, .ref a_p0_ranks, .ref a_p0_ways, .int zp0_size])), (a_p0_owners, .inl (cI, 12, .inl zp0_owners)), (a_p0_ranks, .inl (cI, 12, .inl zp0_ranks)), (a_p0_ways, .inl (cI, 12, .inl zp0_ways))] [(a_p0, .inr (0, [.ref a_p0_owners, .ref a_p0_ranks, .ref a_p0_ways, .int zp0_size])), (a_p0_owners, .inl (cI, 12, .inl zp0_owners)), (a_p0_ranks, .inl (cI, 12, .inl zp0_ranks)), (a_p0_ways, .inl (cI, 12, .inl zp0_ways))] y := by
  intro d
  induction d with
  | zero => intro x1 x2 x3 zp0_owners zp0_ranks zp0_ways zp0_size y h; exact no_s h
  | succ d ihd =>
    intro x1 x2 x3 zp0_owners zp0_ranks zp0_ways zp0_size y h
    rw [f_X1_winsWithin] at h
    refine ctI (by decide) (Nat.le_of_ble_eq_true rfl) ?_
    intro p e s m args below meth c A Q ls F hret hP hD hS hl
    have hx := F.1
    have hb := F.2.1
    have hown : s.vm.findClass RX1 = some m.cls := F.2.2.2.1
    have hts := F.2.2.2.2.1
    have hN := F.2.2.2.2.2.1
    have hK := F.2.2.2.2.2.2.1
    have hl : lv_has ls 11 [(0, .ref a_p0), (1, .int x1), (2, .int x2), (3, .int x3)] := hl
    refine lv_iload_n hx hb dX1_winsWithin_0 rfl (lv_at hl 2 rfl) ?_
    refine lv_if_eq (tgt := 8) hx hb dX1_winsWithin_1 (by decide) (fun c1 => ?_) (fun c1 => ?_)
    · have h := itT h c1
      refine lv_iconst (v := 0) hx hb dX1_winsWithin_8 (by decide) ?_
      obtain rfl := Option.some.inj h
      exact hret _ _ _ _ _ rfl hP hD hS dX1_winsWithin_9
    · have h := itF h c1
      refine lv_iload_n hx hb dX1_winsWithin_4 rfl (lv_at hl 3 rfl) ?_
      refine lv_if_ge (tgt := 10) hx hb dX1_winsWithin_5 (by decide) (fun c2 => ?_) (fun c2 => ?_)
      · have h := itT h c2
        refine lv_aload_n hx hb dX1_winsWithin_10 rfl (lv_at hl 0 rfl) ?_
        refine lv_iload_n hx hb dX1_winsWithin_11 rfl (lv_at hl 3 rfl) ?_
        obtain ⟨q3, hq4, h⟩ := bd h
        refine kvI (ws' := [(a_p0, .inr (0, [.ref a_p0_owners, .ref a_p0_ranks, .ref a_p0_ways, .int zp0_size])), (a_p0_owners, .inl (cI, 12, .inl zp0_owners)), (a_p0_ranks, .inl (cI, 12, .inl zp0_ranks)), (a_p0_ways, .inl (cI, 12, .inl zp0_ways))]) (wr := [(a_p0_owners, .inl (cI, 12, .inl zp0_owners)), (a_p0_ways, .inl (cI, 12, .inl zp0_ways))]) (As := [.int x3]) F (c_X0_ranked l D cI cC cH a_p0 a_p0_owners a_p0_ranks a_p0_ways N x3 zp0_ranks zp0_size q3 hq4) yfX0_ranked ⟨wd1_159, wd1_160, wd1_161⟩ hP hD hS [0, 2] [1, 3] [2, 0, 3, 1] rfl rfl (by decide) (by decide) (by decide) rfl (by decide) 0 0 rfl rfl rfl ⟨by show _ ≤ 2 + (d + 1); omega, by show _ ≤ 53 + 40 * (d + 1); omega, Nat.zero_le _, Nat.zero_le _⟩ rfl hl rfl (Nat.le_of_ble_eq_true rfl) dX1_winsWithin_12 (fun H locs hP hD hS => ?_)
        refine lv_istore (lv' := [(4, .int q3), (0, .ref a_p0), (1, .int x1), (2, .int x2), (3, .int x3)]) hx hb dX1_winsWithin_15 hl (by decide) rfl (fun ls hl => ?_)
        refine lv_iload_n hx hb dX1_winsWithin_17 rfl (lv_at hl 4 rfl) ?_
        refine lv_iconst (v := 2) hx hb dX1_winsWithin_18 (by decide) ?_
        refine lv_irem hx hb dX1_winsWithin_19 (by decide) ?_
        refine lv_istore (lv' := [(5, .int (x3 - x3 / 2 * 2)), (4, .int q3), (0, .ref a_p0), (1, .int x1), (2, .int x2), (3, .int x3)]) hx hb dX1_winsWithin_20 hl (by decide) rfl (fun ls hl => ?_)
        refine lv_iconst (v := 1) hx hb dX1_winsWithin_22 (by decide) ?_
        refine lv_iload hx hb dX1_winsWithin_23 (lv_at hl 0 rfl) ?_
        refine lv_isub hx hb dX1_winsWithin_25 ?_
        refine lv_istore (lv' := [(6, .int (1 - (x3 - x3 / 2 * 2))), (5, .int (x3 - x3 / 2 * 2)), (4, .int q3), (0, .ref a_p0), (1, .int x1), (2, .int x2), (3, .int x3)]) hx hb dX1_winsWithin_26 hl (by decide) rfl (fun ls hl => ?_)
        refine lv_iload_n hx hb dX1_winsWithin_28 rfl (lv_at hl 5 rfl) ?_
        refine lv_istore (lv' := [(7, .int x2), (6, .int (1 - (x3 - x3 / 2 * 2))), (5, .int (x3 - x3 / 2 * 2)), (4, .int q3), (0, .ref a_p0), (1, .int x1), (2, .int x2), (3, .int x3)]) hx hb dX1_winsWithin_29 hl (by decide) rfl (fun ls hl => ?_)
        refine lv_iconst (v := 0) hx hb dX1_winsWithin_31 (by decide) ?_
        refine lv_istore (lv' := [(8, .int 0), (7, .int x2), (6, .int (1 - (x3 - x3 / 2 * 2))), (5, .int (x3 - x3 / 2 * 2)), (4, .int q3), (0, .ref a_p0), (1, .int x1), (2, .int x2), (3, .int x3)]) hx hb dX1_winsWithin_32 hl (by decide) rfl (fun ls hl => ?_)
        have L_34 : ∀ (x1_34 : Int32) (x2_34 : Int32) (x3_34 : Int32) (x4_34 : Int32) (x5_34 : Int32) (x6_34 : Int32) (zp0_owners_34 : Nat → Int32) (zp0_ranks_34 : Nat → Int32) (zp0_ways_34 : Nat → Int32) (zp0_size_34 : Int32), ∀ (n_34 : Nat) (x7_34 : Int32) (x8_34 : Int32) (q16 : (Int32)), f_X1_winsWithin_L34 N (f_X1_winsWithin N d) x3_34 x4_34 x5_34 x6_34 zp0_owners_34 zp0_ranks_34 zp0_ways_34 zp0_size_34 n_34 x7_34 x8_34 = some q16 → (∀ (ls : Array Slot) (H : Heap) (locs : List Loc), lv_has ls 11 [(1, .int x1_34), (2, .int x2_34), (5, .int x5_34), (7, .int q16)] → va_P D vwCl [(a_p0, .inr (0, [.ref a_p0_owners, .ref a_p0_ranks, .ref a_p0_ways, .int zp0_size_34])), (a_p0_owners, .inl (cI, 12, .inl zp0_owners_34)), (a_p0_ranks, .inl (cI, 12, .inl zp0_ranks_34)), (a_p0_ways, .inl (cI, 12, .inl zp0_ways_34))] H → va_D A [(a_p0, .inr (0, [.ref a_p0_owners, .ref a_p0_ranks, .ref a_p0_ways, .int zp0_size_34])), (a_p0_owners, .inl (cI, 12, .inl zp0_owners_34)), (a_p0_ranks, .inl (cI, 12, .inl zp0_ranks_34)), (a_p0_ways, .inl (cI, 12, .inl zp0_ways_34))] → va_S A s.heap H locs → W p l e (rmm (2 + (d + 1)) (53 + 40 * (d + 1))) s m args below meth c H locs 0 0 Q (F0 m 129 ls [])) → ∀ (ls : Array Slot) (H : Heap) (locs : List Loc), lv_has ls 11 [(0, .ref a_p0), (1, .int x1_34), (2, .int x2_34), (3, .int x3_34), (4, .int x4_34), (5, .int x5_34), (6, .int x6_34), (7, .int x7_34), (8, .int x8_34)] → va_P D vwCl [(a_p0, .inr (0, [.ref a_p0_owners, .ref a_p0_ranks, .ref a_p0_ways, .int zp0_size_34])), (a_p0_owners, .inl (cI, 12, .inl zp0_owners_34)), (a_p0_ranks, .inl (cI, 12, .inl zp0_ranks_34)), (a_p0_ways, .inl (cI, 12, .inl zp0_ways_34))] H → va_D A [(a_p0, .inr (0, [.ref a_p0_owners, .ref a_p0_ranks, .ref a_p0_ways, .int zp0_size_34])), (a_p0_owners, .inl (cI, 12, .inl zp0_owners_34)), (a_p0_ranks, .inl (cI, 12, .inl zp0_ranks_34)), (a_p0_ways, .inl (cI, 12, .inl zp0_ways_34))] → va_S A s.heap H locs → W p l e (rmm (2 + (d + 1)) (53 + 40 * (d + 1))) s m args below meth c H locs 0 0 Q (F0 m 34 ls []) := by
          intro x1_34 x2_34 x3_34 x4_34 x5_34 x6_34 zp0_owners_34 zp0_ranks_34 zp0_ways_34 zp0_size_34 n_34
          induction n_34 with
          | zero => intro x7_34 x8_34 q16 h; exact no_s h
          | succ n_34 ih_34 =>
            intro x7_34 x8_34 q16 h J_34 ls H locs hl hP hD hS
            rw [f_X1_winsWithin_L34] at h
            refine lv_iload hx hb dX1_winsWithin_34 (lv_at hl 8 rfl) ?_
            refine lv_bipush (v := 12) hx hb dX1_winsWithin_36 (by decide) ?_
            refine lv_icmp_gt (tgt := 129) hx hb dX1_winsWithin_38 (by decide) (fun c5 => ?_) (fun c5 => ?_)
            · have h := itT h c5
              obtain rfl := Option.some.inj h
              exact J_34 _ _ _ (lv_sub hl [1, 2, 5, 7] rfl) hP hD hS
            · have h := itF h c5
              refine lv_iload hx hb dX1_winsWithin_41 (lv_at hl 7 rfl) ?_
              refine lv_iload hx hb dX1_winsWithin_43 (lv_at hl 4 rfl) ?_
              refine lv_iand hx hb dX1_winsWithin_45 ?_
              refine lv_if_ne (tgt := 65) hx hb dX1_winsWithin_46 (by decide) (fun c6 => ?_) (fun c6 => ?_)
              · have h := itF h c6
                refine lv_iload hx hb dX1_winsWithin_65 (lv_at hl 7 rfl) ?_
                refine lv_aload_n hx hb dX1_winsWithin_67 rfl (lv_at hl 0 rfl) ?_
                refine lv_iload hx hb dX1_winsWithin_68 (lv_at hl 5 rfl) ?_
                refine lv_iload hx hb dX1_winsWithin_70 (lv_at hl 7 rfl) ?_
                refine lv_iload hx hb dX1_winsWithin_72 (lv_at hl 4 rfl) ?_
                refine lv_iand hx hb dX1_winsWithin_74 ?_
                refine lv_iload hx hb dX1_winsWithin_75 (lv_at hl 7 rfl) ?_
                obtain ⟨q7, hq8, h⟩ := bd h
                refine ksI (ws' := [(a_p0, .inr (0, [.ref a_p0_owners, .ref a_p0_ranks, .ref a_p0_ways, .int zp0_size_34])), (a_p0_owners, .inl (cI, 12, .inl zp0_owners_34)), (a_p0_ranks, .inl (cI, 12, .inl zp0_ranks_34)), (a_p0_ways, .inl (cI, 12, .inl zp0_ways_34))]) (wr := [(a_p0_ranks, .inl (cI, 12, .inl zp0_ranks_34))]) (As := [.ref a_p0, .int x5_34, .int (x7_34 &&& x4_34), .int x7_34]) F (c_X1_pull l D cI cC cH a_p0 a_p0_owners a_p0_ranks a_p0_ways N x5_34 (x7_34 &&& x4_34) x7_34 zp0_owners_34 zp0_ways_34 zp0_size_34 q7 hq8) yfX1_pull ⟨wd1_150, wd1_151⟩ hP hD hS [0, 1, 3] [2] [1, 2, 0, 3] rfl rfl (by decide) (by decide) (by decide) rfl (by decide) ⟨by show _ ≤ 2 + (d + 1); omega, by show _ ≤ 53 + 40 * (d + 1); omega, Nat.zero_le _, Nat.zero_le _⟩ rfl hl rfl (Nat.le_of_ble_eq_true rfl) dX1_winsWithin_77 (fun H locs hP hD hS => ?_)
                refine lv_iconst (v := (-1)) hx hb dX1_winsWithin_80 (by decide) ?_
                refine lv_ixor hx hb dX1_winsWithin_81 ?_
                refine lv_iand hx hb dX1_winsWithin_82 ?_
                refine lv_istore (lv' := [(9, .int (x7_34 &&& (q7 ^^^ (-1)))), (0, .ref a_p0), (1, .int x1_34), (2, .int x2_34), (3, .int x3_34), (4, .int x4_34), (5, .int x5_34), (6, .int x6_34), (7, .int x7_34), (8, .int x8_34)]) hx hb dX1_winsWithin_83 hl (by decide) rfl (fun ls hl => ?_)
                refine lv_aload_n hx hb dX1_winsWithin_85 rfl (lv_at hl 1 rfl) ?_
                refine lv_iload hx hb dX1_winsWithin_86 (lv_at hl 7 rfl) ?_
                refine lv_iload hx hb dX1_winsWithin_88 (lv_at hl 0 rfl) ?_
                refine lv_iload_n hx hb dX1_winsWithin_90 rfl (lv_at hl 4 rfl) ?_
                refine lv_iconst (v := 1) hx hb dX1_winsWithin_91 (by decide) ?_
                refine lv_isub hx hb dX1_winsWithin_92 ?_
                obtain ⟨q9, hq10, h⟩ := bd h
                refine ksI (ws' := [(a_p0, .inr (0, [.ref a_p0_owners, .ref a_p0_ranks, .ref a_p0_ways, .int zp0_size_34])), (a_p0_owners, .inl (cI, 12, .inl zp0_owners_34)), (a_p0_ranks, .inl (cI, 12, .inl zp0_ranks_34)), (a_p0_ways, .inl (cI, 12, .inl zp0_ways_34))]) (wr := []) (As := [.ref a_p0, .int x6_34, .int (x7_34 &&& (q7 ^^^ (-1))), .int (x3_34 - 1)]) F (ihd x6_34 (x7_34 &&& (q7 ^^^ (-1))) (x3_34 - 1) zp0_owners_34 zp0_ranks_34 zp0_ways_34 zp0_size_34 q9 hq10) yfX1_winsWithin ⟨wd1_156, wd1_157⟩ hP hD hS [0, 1, 2, 3] [] [0, 1, 2, 3] rfl rfl (by decide) (by decide) (by decide) rfl (by decide) ⟨by show _ ≤ 2 + (d + 1); omega, by show _ ≤ 53 + 40 * (d + 1); omega, Nat.zero_le _, Nat.zero_le _⟩ rfl hl rfl (Nat.le_of_ble_eq_true rfl) dX1_winsWithin_93 (fun H locs hP hD hS => ?_)
                refine lv_istore (lv' := [(10, .int q9), (9, .int (x7_34 &&& (q7 ^^^ (-1)))), (0, .ref a_p0), (1, .int x1_34), (2, .int x2_34), (3, .int x3_34), (4, .int x4_34), (5, .int x5_34), (6, .int x6_34), (7, .int x7_34), (8, .int x8_34)]) hx hb dX1_winsWithin_96 hl (by decide) rfl (fun ls hl => ?_)
                refine lv_iload hx hb dX1_winsWithin_98 (lv_at hl 0 rfl) ?_
                refine lv_if_ne (tgt := 106) hx hb dX1_winsWithin_100 (by decide) (fun c11 => ?_) (fun c11 => ?_)
                · have h := itF h c11
                  refine lv_iload hx hb dX1_winsWithin_106 (lv_at hl 9 rfl) ?_
                  refine lv_aload_n hx hb dX1_winsWithin_108 rfl (lv_at hl 2 rfl) ?_
                  refine lv_iload hx hb dX1_winsWithin_109 (lv_at hl 8 rfl) ?_
                  refine lv_iload hx hb dX1_winsWithin_111 (lv_at hl 0 rfl) ?_
                  refine lv_iload hx hb dX1_winsWithin_113 (lv_at hl 9 rfl) ?_
                  obtain ⟨q12, hq13, h⟩ := bd h
                  refine ksI (ws' := [(a_p0, .inr (0, [.ref a_p0_owners, .ref a_p0_ranks, .ref a_p0_ways, .int zp0_size_34])), (a_p0_owners, .inl (cI, 12, .inl zp0_owners_34)), (a_p0_ranks, .inl (cI, 12, .inl zp0_ranks_34)), (a_p0_ways, .inl (cI, 12, .inl zp0_ways_34))]) (wr := [(a_p0_ranks, .inl (cI, 12, .inl zp0_ranks_34))]) (As := [.ref a_p0, .int x6_34, .int q9, .int x7_34]) F (c_X1_pull l D cI cC cH a_p0 a_p0_owners a_p0_ranks a_p0_ways N x6_34 q9 x7_34 zp0_owners_34 zp0_ways_34 zp0_size_34 q12 hq13) yfX1_pull ⟨wd1_150, wd1_151⟩ hP hD hS [0, 1, 3] [2] [1, 2, 0, 3] rfl rfl (by decide) (by decide) (by decide) rfl (by decide) ⟨by show _ ≤ 2 + (d + 1); omega, by show _ ≤ 53 + 40 * (d + 1); omega, Nat.zero_le _, Nat.zero_le _⟩ rfl hl rfl (Nat.le_of_ble_eq_true rfl) dX1_winsWithin_115 (fun H locs hP hD hS => ?_)
                  refine lv_iconst (v := (-1)) hx hb dX1_winsWithin_118 (by decide) ?_
                  refine lv_ixor hx hb dX1_winsWithin_119 ?_
                  refine lv_iand hx hb dX1_winsWithin_120 ?_
                  refine lv_istore (lv' := [(7, .int (x7_34 &&& (q12 ^^^ (-1)))), (10, .int q9), (9, .int (x7_34 &&& (q7 ^^^ (-1)))), (0, .ref a_p0), (1, .int x1_34), (2, .int x2_34), (3, .int x3_34), (4, .int x4_34), (5, .int x5_34), (6, .int x6_34), (8, .int x8_34)]) hx hb dX1_winsWithin_121 hl (by decide) rfl (fun ls hl => ?_)
                  refine lv_iinc (v := x8_34 + 1) (lv' := [(8, .int (x8_34 + 1)), (7, .int (x7_34 &&& (q12 ^^^ (-1)))), (10, .int q9), (9, .int (x7_34 &&& (q7 ^^^ (-1)))), (0, .ref a_p0), (1, .int x1_34), (2, .int x2_34), (3, .int x3_34), (4, .int x4_34), (5, .int x5_34), (6, .int x6_34)]) hx hb dX1_winsWithin_123 hl (k := 10) rfl rfl (by decide) rfl (fun ls hl => ?_)
                  refine lv_goto (tgt := 34) hx hb dX1_winsWithin_126 (by decide) ?_
                  exact ih_34 (x7_34 &&& (q12 ^^^ (-1))) (x8_34 + 1) _ h J_34 _ _ _ (lv_sub hl [4, 5, 6, 7, 8, 9, 10, 1, 0] rfl) hP hD hS
                · have h := itT h c11
                  refine lv_goto (tgt := 129) hx hb dX1_winsWithin_103 (by decide) ?_
                  obtain rfl := Option.some.inj h
                  exact J_34 _ _ _ (lv_sub hl [3, 4, 7, 9] rfl) hP hD hS
              · have h := itT h c6
                refine lv_aload_n hx hb dX1_winsWithin_49 rfl (lv_at hl 0 rfl) ?_
                refine lv_iload hx hb dX1_winsWithin_50 (lv_at hl 5 rfl) ?_
                refine lv_iload hx hb dX1_winsWithin_52 (lv_at hl 7 rfl) ?_
                refine lv_iload_n hx hb dX1_winsWithin_54 rfl (lv_at hl 3 rfl) ?_
                refine lv_iconst (v := 1) hx hb dX1_winsWithin_55 (by decide) ?_
                refine lv_isub hx hb dX1_winsWithin_56 ?_
                obtain ⟨q14, hq15, h⟩ := bd h
                refine ksI (ws' := [(a_p0, .inr (0, [.ref a_p0_owners, .ref a_p0_ranks, .ref a_p0_ways, .int zp0_size_34])), (a_p0_owners, .inl (cI, 12, .inl zp0_owners_34)), (a_p0_ranks, .inl (cI, 12, .inl zp0_ranks_34)), (a_p0_ways, .inl (cI, 12, .inl zp0_ways_34))]) (wr := []) (As := [.ref a_p0, .int x5_34, .int x7_34, .int (x3_34 - 1)]) F (ihd x5_34 x7_34 (x3_34 - 1) zp0_owners_34 zp0_ranks_34 zp0_ways_34 zp0_size_34 q14 hq15) yfX1_winsWithin ⟨wd1_156, wd1_157⟩ hP hD hS [0, 1, 2, 3] [] [0, 1, 2, 3] rfl rfl (by decide) (by decide) (by decide) rfl (by decide) ⟨by show _ ≤ 2 + (d + 1); omega, by show _ ≤ 53 + 40 * (d + 1); omega, Nat.zero_le _, Nat.zero_le _⟩ rfl hl rfl (Nat.le_of_ble_eq_true rfl) dX1_winsWithin_57 (fun H locs hP hD hS => ?_)
                refine lv_istore (lv' := [(7, .int q14), (0, .ref a_p0), (1, .int x1_34), (2, .int x2_34), (3, .int x3_34), (4, .int x4_34), (5, .int x5_34), (6, .int x6_34), (8, .int x8_34)]) hx hb dX1_winsWithin_60 hl (by decide) rfl (fun ls hl => ?_)
                refine lv_goto (tgt := 129) hx hb dX1_winsWithin_62 (by decide) ?_
                obtain rfl := Option.some.inj h
                exact J_34 _ _ _ (lv_sub hl [2, 3, 6, 0] rfl) hP hD hS
        obtain ⟨q17, hb19, h⟩ := bd h
        refine L_34 x1 x2 x3 q3 (x3 - x3 / 2 * 2) (1 - (x3 - x3 / 2 * 2)) zp0_owners zp0_ranks zp0_ways zp0_size N x2 0 q17 hb19 ?_ _ _ _ (lv_sub hl [5, 6, 7, 8, 4, 3, 2, 1, 0] rfl) hP hD hS
        intro ls H locs hl hP hD hS
        refine lv_iload_n hx hb dX1_winsWithin_129 rfl (lv_at hl 0 rfl) ?_
        refine lv_iload hx hb dX1_winsWithin_130 (lv_at hl 2 rfl) ?_
        refine lv_icmp_ne (tgt := 140) hx hb dX1_winsWithin_132 (by decide) (fun c18 => ?_) (fun c18 => ?_)
        · have h := itF h c18
          refine lv_iload_n hx hb dX1_winsWithin_140 rfl (lv_at hl 1 rfl) ?_
          refine lv_iload hx hb dX1_winsWithin_141 (lv_at hl 3 rfl) ?_
          refine lv_iconst (v := (-1)) hx hb dX1_winsWithin_143 (by decide) ?_
          refine lv_ixor hx hb dX1_winsWithin_144 ?_
          refine lv_iand hx hb dX1_winsWithin_145 ?_
          obtain rfl := Option.some.inj h
          exact hret _ _ _ _ _ rfl hP hD hS dX1_winsWithin_146
        · have h := itT h c18
          refine lv_iload hx hb dX1_winsWithin_135 (lv_at hl 3 rfl) ?_
          refine lv_goto (tgt := 146) hx hb dX1_winsWithin_137 (by decide) ?_
          obtain rfl := Option.some.inj h
          exact hret _ _ _ _ _ rfl hP hD hS dX1_winsWithin_146
      · have h := itF h c2
        refine lv_iconst (v := 0) hx hb dX1_winsWithin_8 (by decide) ?_
        obtain rfl := Option.some.inj h
        exact hret _ _ _ _ _ rfl hP hD hS dX1_winsWithin_9
def f_X1_winsOf0 (N : Nat) (zp0_owners : Nat → Int32) (zp0_ranks : Nat → Int32) (zp0_ways : Nat → Int32) (zp0_size : Int32) : Option (Int32) :=
    Option.bind (f_X0_all N zp0_size) (fun q1 => Option.bind (f_X0_endsOf N 1 zp0_owners zp0_ways zp0_size) (fun q3 => Option.bind (f_X1_pull N 0 q3 q1 zp0_owners zp0_ways zp0_size) (fun q5 => Option.bind (f_X0_endsOf N 0 zp0_owners zp0_ways zp0_size) (fun q7 => Option.bind (f_X1_pull N 1 q7 q1 zp0_owners zp0_ways zp0_size) (fun q9 => Option.bind (f_X1_winsWithin N 8 0 ((q1 &&& (q5 ^^^ (-1))) &&& (q9 ^^^ (-1))) 5 zp0_owners zp0_ranks zp0_ways zp0_size) (fun q11 => some (q5 ||| q11)))))))
set_option maxHeartbeats 4000000 in
set_option maxRecDepth 100000 in
theorem c_X1_winsOf0 (l : Launch) (D : va_G) (cI cC cH : ClassId) (a_p0 : Nat) (a_p0_owners : Nat) (a_p0_ranks : Nat) (a_p0_ways : Nat) (N : Nat) (zp0_owners : Nat → Int32) (zp0_ranks : Nat → Int32) (zp0_ways : Nat → Int32) (zp0_size : Int32) (y : Int32) (h : f_X1_winsOf0 N zp0_owners zp0_ranks zp0_ways zp0_size = some y) : CTi l yX1_winsOf0 cX1_winsOf0 4 (some .int) 11 403 D (tyL cI cC cH) [.ref a_p0] [(a_p0, .inr (0, [.ref a_p0_owners, .ref a_p0_ranks, .ref a_p0_ways, .int zp0_size])), (a_p0_owners, .inl (cI, 12, .inl zp0_owners)), (a_p0_ranks, .inl (cI, 12, .inl zp0_ranks)), (a_p0_ways, .inl (cI, 12, .inl zp0_ways))] [(a_p0, .inr (0, [.ref a_p0_owners, .ref a_p0_ranks, .ref a_p0_ways, .int zp0_size])), (a_p0_owners, .inl (cI, 12, .inl zp0_owners)), (a_p0_ranks, .inl (cI, 12, .inl zp0_ranks)), (a_p0_ways, .inl (cI, 12, .inl zp0_ways))] y := by
  unfold f_X1_winsOf0 at h
  refine ctI (by decide) (Nat.le_of_ble_eq_true rfl) ?_
  intro p e s m args below meth c A Q ls F hret hP hD hS hl
  have hx := F.1
  have hb := F.2.1
  have hown : s.vm.findClass RX1 = some m.cls := F.2.2.2.1
  have hts := F.2.2.2.2.1
  have hN := F.2.2.2.2.2.1
  have hK := F.2.2.2.2.2.2.1
  have hl : lv_has ls 4 [(0, .ref a_p0)] := hl
  refine lv_aload_n hx hb dX1_winsOf0_0 rfl (lv_at hl 0 rfl) ?_
  obtain ⟨q1, hq2, h⟩ := bd h
  refine kvI (ws' := [(a_p0, .inr (0, [.ref a_p0_owners, .ref a_p0_ranks, .ref a_p0_ways, .int zp0_size])), (a_p0_owners, .inl (cI, 12, .inl zp0_owners)), (a_p0_ranks, .inl (cI, 12, .inl zp0_ranks)), (a_p0_ways, .inl (cI, 12, .inl zp0_ways))]) (wr := [(a_p0_owners, .inl (cI, 12, .inl zp0_owners)), (a_p0_ranks, .inl (cI, 12, .inl zp0_ranks)), (a_p0_ways, .inl (cI, 12, .inl zp0_ways))]) (As := []) F (c_X0_all l D cI cC cH a_p0 a_p0_owners a_p0_ranks a_p0_ways N zp0_size q1 hq2) yfX0_all ⟨wd1_142, wd1_143, wd1_144⟩ hP hD hS [0] [1, 2, 3] [3, 0, 1, 2] rfl rfl (by decide) (by decide) (by decide) rfl (by decide) 0 0 rfl rfl rfl ⟨Nat.le_of_ble_eq_true rfl, Nat.le_of_ble_eq_true rfl, Nat.zero_le _, Nat.zero_le _⟩ rfl hl rfl (Nat.le_of_ble_eq_true rfl) dX1_winsOf0_1 (fun H locs hP hD hS => ?_)
  refine lv_istore_n (lv' := [(1, .int q1), (0, .ref a_p0)]) hx hb dX1_winsOf0_4 rfl hl (by decide) rfl (fun ls hl => ?_)
  refine lv_aload_n hx hb dX1_winsOf0_5 rfl (lv_at hl 1 rfl) ?_
  refine lv_iconst (v := 0) hx hb dX1_winsOf0_6 (by decide) ?_
  refine lv_aload_n hx hb dX1_winsOf0_7 rfl (lv_at hl 1 rfl) ?_
  refine lv_iconst (v := 1) hx hb dX1_winsOf0_8 (by decide) ?_
  obtain ⟨q3, hq4, h⟩ := bd h
  refine kvI (ws' := [(a_p0, .inr (0, [.ref a_p0_owners, .ref a_p0_ranks, .ref a_p0_ways, .int zp0_size])), (a_p0_owners, .inl (cI, 12, .inl zp0_owners)), (a_p0_ranks, .inl (cI, 12, .inl zp0_ranks)), (a_p0_ways, .inl (cI, 12, .inl zp0_ways))]) (wr := [(a_p0_ranks, .inl (cI, 12, .inl zp0_ranks))]) (As := [.int 1]) F (c_X0_endsOf l D cI cC cH a_p0 a_p0_owners a_p0_ranks a_p0_ways N 1 zp0_owners zp0_ways zp0_size q3 hq4) yfX0_endsOf ⟨wd1_146, wd1_147, wd1_148⟩ hP hD hS [0, 1, 3] [2] [1, 2, 0, 3] rfl rfl (by decide) (by decide) (by decide) rfl (by decide) 0 0 rfl rfl rfl ⟨Nat.le_of_ble_eq_true rfl, Nat.le_of_ble_eq_true rfl, Nat.zero_le _, Nat.zero_le _⟩ rfl hl rfl (Nat.le_of_ble_eq_true rfl) dX1_winsOf0_9 (fun H locs hP hD hS => ?_)
  refine lv_iload_n hx hb dX1_winsOf0_12 rfl (lv_at hl 0 rfl) ?_
  obtain ⟨q5, hq6, h⟩ := bd h
  refine ksI (ws' := [(a_p0, .inr (0, [.ref a_p0_owners, .ref a_p0_ranks, .ref a_p0_ways, .int zp0_size])), (a_p0_owners, .inl (cI, 12, .inl zp0_owners)), (a_p0_ranks, .inl (cI, 12, .inl zp0_ranks)), (a_p0_ways, .inl (cI, 12, .inl zp0_ways))]) (wr := [(a_p0_ranks, .inl (cI, 12, .inl zp0_ranks))]) (As := [.ref a_p0, .int 0, .int q3, .int q1]) F (c_X1_pull l D cI cC cH a_p0 a_p0_owners a_p0_ranks a_p0_ways N 0 q3 q1 zp0_owners zp0_ways zp0_size q5 hq6) yfX1_pull ⟨wd1_150, wd1_151⟩ hP hD hS [0, 1, 3] [2] [1, 2, 0, 3] rfl rfl (by decide) (by decide) (by decide) rfl (by decide) ⟨Nat.le_of_ble_eq_true rfl, Nat.le_of_ble_eq_true rfl, Nat.zero_le _, Nat.zero_le _⟩ rfl hl rfl (Nat.le_of_ble_eq_true rfl) dX1_winsOf0_13 (fun H locs hP hD hS => ?_)
  refine lv_istore_n (lv' := [(2, .int q5), (1, .int q1), (0, .ref a_p0)]) hx hb dX1_winsOf0_16 rfl hl (by decide) rfl (fun ls hl => ?_)
  refine lv_aload_n hx hb dX1_winsOf0_17 rfl (lv_at hl 2 rfl) ?_
  refine lv_iconst (v := 1) hx hb dX1_winsOf0_18 (by decide) ?_
  refine lv_aload_n hx hb dX1_winsOf0_19 rfl (lv_at hl 2 rfl) ?_
  refine lv_iconst (v := 0) hx hb dX1_winsOf0_20 (by decide) ?_
  obtain ⟨q7, hq8, h⟩ := bd h
  refine kvI (ws' := [(a_p0, .inr (0, [.ref a_p0_owners, .ref a_p0_ranks, .ref a_p0_ways, .int zp0_size])), (a_p0_owners, .inl (cI, 12, .inl zp0_owners)), (a_p0_ranks, .inl (cI, 12, .inl zp0_ranks)), (a_p0_ways, .inl (cI, 12, .inl zp0_ways))]) (wr := [(a_p0_ranks, .inl (cI, 12, .inl zp0_ranks))]) (As := [.int 0]) F (c_X0_endsOf l D cI cC cH a_p0 a_p0_owners a_p0_ranks a_p0_ways N 0 zp0_owners zp0_ways zp0_size q7 hq8) yfX0_endsOf ⟨wd1_146, wd1_147, wd1_148⟩ hP hD hS [0, 1, 3] [2] [1, 2, 0, 3] rfl rfl (by decide) (by decide) (by decide) rfl (by decide) 0 0 rfl rfl rfl ⟨Nat.le_of_ble_eq_true rfl, Nat.le_of_ble_eq_true rfl, Nat.zero_le _, Nat.zero_le _⟩ rfl hl rfl (Nat.le_of_ble_eq_true rfl) dX1_winsOf0_21 (fun H locs hP hD hS => ?_)
  refine lv_iload_n hx hb dX1_winsOf0_24 rfl (lv_at hl 1 rfl) ?_
  obtain ⟨q9, hq10, h⟩ := bd h
  refine ksI (ws' := [(a_p0, .inr (0, [.ref a_p0_owners, .ref a_p0_ranks, .ref a_p0_ways, .int zp0_size])), (a_p0_owners, .inl (cI, 12, .inl zp0_owners)), (a_p0_ranks, .inl (cI, 12, .inl zp0_ranks)), (a_p0_ways, .inl (cI, 12, .inl zp0_ways))]) (wr := [(a_p0_ranks, .inl (cI, 12, .inl zp0_ranks))]) (As := [.ref a_p0, .int 1, .int q7, .int q1]) F (c_X1_pull l D cI cC cH a_p0 a_p0_owners a_p0_ranks a_p0_ways N 1 q7 q1 zp0_owners zp0_ways zp0_size q9 hq10) yfX1_pull ⟨wd1_150, wd1_151⟩ hP hD hS [0, 1, 3] [2] [1, 2, 0, 3] rfl rfl (by decide) (by decide) (by decide) rfl (by decide) ⟨Nat.le_of_ble_eq_true rfl, Nat.le_of_ble_eq_true rfl, Nat.zero_le _, Nat.zero_le _⟩ rfl hl rfl (Nat.le_of_ble_eq_true rfl) dX1_winsOf0_25 (fun H locs hP hD hS => ?_)
  refine lv_istore_n (lv' := [(3, .int q9), (2, .int q5), (1, .int q1), (0, .ref a_p0)]) hx hb dX1_winsOf0_28 rfl hl (by decide) rfl (fun ls hl => ?_)
  refine lv_iload_n hx hb dX1_winsOf0_29 rfl (lv_at hl 1 rfl) ?_
  refine lv_aload_n hx hb dX1_winsOf0_30 rfl (lv_at hl 3 rfl) ?_
  refine lv_iconst (v := 0) hx hb dX1_winsOf0_31 (by decide) ?_
  refine lv_iload_n hx hb dX1_winsOf0_32 rfl (lv_at hl 2 rfl) ?_
  refine lv_iload_n hx hb dX1_winsOf0_33 rfl (lv_at hl 1 rfl) ?_
  refine lv_iconst (v := (-1)) hx hb dX1_winsOf0_34 (by decide) ?_
  refine lv_ixor hx hb dX1_winsOf0_35 ?_
  refine lv_iand hx hb dX1_winsOf0_36 ?_
  refine lv_iload_n hx hb dX1_winsOf0_37 rfl (lv_at hl 0 rfl) ?_
  refine lv_iconst (v := (-1)) hx hb dX1_winsOf0_38 (by decide) ?_
  refine lv_ixor hx hb dX1_winsOf0_39 ?_
  refine lv_iand hx hb dX1_winsOf0_40 ?_
  refine lv_iconst (v := 5) hx hb dX1_winsOf0_41 (by decide) ?_
  obtain ⟨q11, hq12, h⟩ := bd h
  refine ksI (ws' := [(a_p0, .inr (0, [.ref a_p0_owners, .ref a_p0_ranks, .ref a_p0_ways, .int zp0_size])), (a_p0_owners, .inl (cI, 12, .inl zp0_owners)), (a_p0_ranks, .inl (cI, 12, .inl zp0_ranks)), (a_p0_ways, .inl (cI, 12, .inl zp0_ways))]) (wr := []) (As := [.ref a_p0, .int 0, .int ((q1 &&& (q5 ^^^ (-1))) &&& (q9 ^^^ (-1))), .int 5]) F (c_X1_winsWithin l D cI cC cH a_p0 a_p0_owners a_p0_ranks a_p0_ways N 8 0 ((q1 &&& (q5 ^^^ (-1))) &&& (q9 ^^^ (-1))) 5 zp0_owners zp0_ranks zp0_ways zp0_size q11 hq12) yfX1_winsWithin ⟨wd1_156, wd1_157⟩ hP hD hS [0, 1, 2, 3] [] [0, 1, 2, 3] rfl rfl (by decide) (by decide) (by decide) rfl (by decide) ⟨Nat.le_of_ble_eq_true rfl, Nat.le_of_ble_eq_true rfl, Nat.zero_le _, Nat.zero_le _⟩ rfl hl rfl (Nat.le_of_ble_eq_true rfl) dX1_winsOf0_42 (fun H locs hP hD hS => ?_)
  refine lv_ior hx hb dX1_winsOf0_45 ?_
  obtain rfl := Option.some.inj h
  exact hret _ _ _ _ _ rfl hP hD hS dX1_winsOf0_46
