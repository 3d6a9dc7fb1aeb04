def f_X4_in (N : Nat) (x0 : Int32) (x1 : Int32) (x2 : Int32) : Option (Int32) :=
    if x0 < x1 then (some 0) else (if x2 < x0 then (some 0) else (some 1))
set_option maxHeartbeats 4000000 in
set_option maxRecDepth 100000 in
theorem c_X4_in (l : Launch) (D : va_G) (cI cC cH : ClassId) (N : Nat) (x0 : Int32) (x1 : Int32) (x2 : Int32) (y : Int32) (h : f_X4_in N x0 x1 x2 = some y) : CTi l yX4_in cX4_in 3 (some .boolean) 0 0 D (tyL cI cC cH) [.int x0, .int x1, .int x2] [] [] y := by
  unfold f_X4_in at h
  refine ctZ (by decide) (Nat.le_of_ble_eq_true rfl) ?_
  intro p e s m args below meth c A Q ls F hret hP hD hS hl
  have hx := F.1
  have hb := F.2.1
  have hown : s.vm.findClass RX4 = some m.cls := F.2.2.2.1
  have hts := F.2.2.2.2.1
  have hN := F.2.2.2.2.2.1
  have hK := F.2.2.2.2.2.2.1
  have hl : lv_has ls 3 [(0, .int x0), (1, .int x1), (2, .int x2)] := hl
  refine lv_iload_n hx hb dX4_in_0 rfl (lv_at hl 0 rfl) ?_
  refine lv_iload_n hx hb dX4_in_1 rfl (lv_at hl 1 rfl) ?_
  refine lv_icmp_lt (tgt := 14) hx hb dX4_in_2 (by decide) (fun c1 => ?_) (fun c1 => ?_)
  · have h := itT h c1
    refine lv_iconst (v := 0) hx hb dX4_in_14 (by decide) ?_
    obtain rfl := Option.some.inj h
    exact hret _ _ _ _ _ rfl rfl hP hD hS dX4_in_15
  · have h := itF h c1
    refine lv_iload_n hx hb dX4_in_5 rfl (lv_at hl 0 rfl) ?_
    refine lv_iload_n hx hb dX4_in_6 rfl (lv_at hl 2 rfl) ?_
    refine lv_icmp_gt (tgt := 14) hx hb dX4_in_7 (by decide) (fun c2 => ?_) (fun c2 => ?_)
    · have h := itT h c2
      refine lv_iconst (v := 0) hx hb dX4_in_14 (by decide) ?_
      obtain rfl := Option.some.inj h
      exact hret _ _ _ _ _ rfl rfl hP hD hS dX4_in_15
    · have h := itF h c2
      refine lv_iconst (v := 1) hx hb dX4_in_10 (by decide) ?_
      refine lv_goto (tgt := 15) hx hb dX4_in_11 (by decide) ?_
      obtain rfl := Option.some.inj h
      exact hret _ _ _ _ _ rfl rfl hP hD hS dX4_in_15
def f_X4_copies_L2 (N : Nat) (zp0_2 : Nat → Int32) : Nat → Int32 → (Nat → Int32) → Option ((Nat → Int32))
  | 0, _, _ => none
  | n_2 + 1, x2_2, zp1_2 =>
    if 37 ≤ x2_2 then (some zp1_2) else (chk (gi x2_2 37) (chk (gi x2_2 37) (f_X4_copies_L2 N zp0_2 n_2 (x2_2 + 1) (upd zp1_2 (Int32.toNatClampNeg x2_2) (zp0_2 (Int32.toNatClampNeg x2_2))))))
def f_X4_copies (N : Nat) (zp0 : Nat → Int32) (zp1 : Nat → Int32) : Option ((Nat → Int32)) :=
    Option.bind (f_X4_copies_L2 N zp0 N 0 zp1) (fun q5 => some q5)
set_option maxHeartbeats 4000000 in
set_option maxRecDepth 100000 in
theorem c_X4_copies (l : Launch) (D : va_G) (cI cC cH : ClassId) (a_p0 : Nat) (a_p1 : Nat) (N : Nat) (zp0 : Nat → Int32) (zp1 : Nat → Int32) (y : (Nat → Int32)) (h : f_X4_copies N zp0 zp1 = some y) : CTv l yX4_copies cX4_copies 3 none 0 0 D (tyL cI cC cH) [.ref a_p0, .ref a_p1] [(a_p0, .inl (cI, 37, .inl zp0)), (a_p1, .inl (cI, 37, .inl zp1))] [(a_p0, .inl (cI, 37, .inl zp0)), (a_p1, .inl (cI, 37, .inl y))] := by
  unfold f_X4_copies at h
  refine ctV (by decide) (Nat.le_of_ble_eq_true rfl) ?_
  intro p e s m args below meth c A Q ls F hret hP hD hS hl
  have hx := F.1
  have hb := F.2.1
  have hown : s.vm.findClass RX4 = some m.cls := F.2.2.2.1
  have hts := F.2.2.2.2.1
  have hN := F.2.2.2.2.2.1
  have hK := F.2.2.2.2.2.2.1
  have hl : lv_has ls 3 [(0, .ref a_p0), (1, .ref a_p1)] := hl
  refine lv_iconst (v := 0) hx hb dX4_copies_0 (by decide) ?_
  refine lv_istore_n (lv' := [(2, .int 0), (0, .ref a_p0), (1, .ref a_p1)]) hx hb dX4_copies_1 rfl hl (by decide) rfl (fun ls hl => ?_)
  have L_2 : ∀ (zp0_2 : Nat → Int32), ∀ (n_2 : Nat) (x2_2 : Int32) (zp1_2 : Nat → Int32) (q4 : ((Nat → Int32))), f_X4_copies_L2 N zp0_2 n_2 x2_2 zp1_2 = some q4 → (∀ (ls : Array Slot) (H : Heap) (locs : List Loc), lv_has ls 3 [] → va_P D vwCl [(a_p0, .inl (cI, 37, .inl zp0_2)), (a_p1, .inl (cI, 37, .inl q4))] H → va_D A [(a_p0, .inl (cI, 37, .inl zp0_2)), (a_p1, .inl (cI, 37, .inl q4))] → va_S A s.heap H locs → W p l e (rmm 0 0) s m args below meth c H locs 0 0 Q (F0 m 20 ls [])) → ∀ (ls : Array Slot) (H : Heap) (locs : List Loc), lv_has ls 3 [(0, .ref a_p0), (1, .ref a_p1), (2, .int x2_2)] → va_P D vwCl [(a_p0, .inl (cI, 37, .inl zp0_2)), (a_p1, .inl (cI, 37, .inl zp1_2))] H → va_D A [(a_p0, .inl (cI, 37, .inl zp0_2)), (a_p1, .inl (cI, 37, .inl zp1_2))] → va_S A s.heap H locs → W p l e (rmm 0 0) s m args below meth c H locs 0 0 Q (F0 m 2 ls []) := by
    intro zp0_2 n_2
    induction n_2 with
    | zero => intro x2_2 zp1_2 q4 h; exact no_s h
    | succ n_2 ih_2 =>
      intro x2_2 zp1_2 q4 h J_2 ls H locs hl hP hD hS
      rw [f_X4_copies_L2] at h
      refine lv_iload_n hx hb dX4_copies_2 rfl (lv_at hl 2 rfl) ?_
      refine lv_bipush (v := 37) hx hb dX4_copies_3 (by decide) ?_
      refine lv_icmp_ge (tgt := 20) hx hb dX4_copies_5 (by decide) (fun c1 => ?_) (fun c1 => ?_)
      · have h := itT h c1
        obtain rfl := Option.some.inj h
        exact J_2 _ _ _ (lv_sub hl [] rfl) hP hD hS
      · have h := itF h c1
        refine lv_aload_n hx hb dX4_copies_8 rfl (lv_at hl 1 rfl) ?_
        refine lv_iload_n hx hb dX4_copies_9 rfl (lv_at hl 2 rfl) ?_
        refine lv_aload_n hx hb dX4_copies_10 rfl (lv_at hl 0 rfl) ?_
        refine lv_iload_n hx hb dX4_copies_11 rfl (lv_at hl 2 rfl) ?_
        obtain ⟨g2, h⟩ := chk_s h
        refine va_iald hx hb hK hP 0 0 rfl rfl (gi_in g2) dX4_copies_12 ?_
        obtain ⟨g3, h⟩ := chk_s h
        refine va_iast hx hb hK hP hD hS 1 0 rfl rfl (gi_in g3) dX4_copies_13 (fun H locs hP hD hS => ?_)
        have hP : va_P D vwCl [(a_p0, .inl (cI, 37, .inl zp0_2)), (a_p1, .inl (cI, 37, .inl (upd zp1_2 (Int32.toNatClampNeg x2_2) (zp0_2 (Int32.toNatClampNeg x2_2)))))] H := hP
        have hD : va_D A [(a_p0, .inl (cI, 37, .inl zp0_2)), (a_p1, .inl (cI, 37, .inl (upd zp1_2 (Int32.toNatClampNeg x2_2) (zp0_2 (Int32.toNatClampNeg x2_2)))))] := hD
        refine lv_iinc (v := x2_2 + 1) (lv' := [(2, .int (x2_2 + 1)), (0, .ref a_p0), (1, .ref a_p1)]) hx hb dX4_copies_14 hl (k := 2) rfl rfl (by decide) rfl (fun ls hl => ?_)
        refine lv_goto (tgt := 2) hx hb dX4_copies_17 (by decide) ?_
        exact ih_2 (x2_2 + 1) (upd zp1_2 (Int32.toNatClampNeg x2_2) (zp0_2 (Int32.toNatClampNeg x2_2))) _ h J_2 _ _ _ (lv_sub hl [1, 2, 0] rfl) hP hD hS
  obtain ⟨q5, hb6, h⟩ := bd h
  refine L_2 zp0 N 0 zp1 q5 hb6 ?_ _ _ _ (lv_sub hl [1, 2, 0] rfl) hP hD hS
  intro ls H locs hl hP hD hS
  obtain rfl := Option.some.inj h
  exact hret _ _ _ _ hP hD hS dX4_copies_20
def f_X4_changes_L10 (N : Nat) : Nat → Int32 → (Nat → Int32) → Option ((Nat → Int32))
  | 0, _, _ => none
  | n_10 + 1, x1_10, zpast_10 =>
    if 111 ≤ x1_10 then (some zpast_10) else (chk (gi (x1_10 + 37) 148) (chk (gi x1_10 148) (f_X4_changes_L10 N n_10 (x1_10 + 1) (upd zpast_10 (Int32.toNatClampNeg x1_10) (zpast_10 (Int32.toNatClampNeg (x1_10 + 37)))))))
def f_X4_changes_L49 (N : Nat) (zs_49 : Nat → Int32) (zpasts_49 : Int32) : Nat → Int32 → (Nat → Int32) → Option ((Nat → Int32))
  | 0, _, _ => none
  | n_49 + 1, x1_49, zpast_49 =>
    if 37 ≤ x1_49 then (some zpast_49) else (chk (gi x1_49 37) (chk (gi ((37 * zpasts_49) + x1_49) 148) (f_X4_changes_L49 N zs_49 zpasts_49 n_49 (x1_49 + 1) (upd zpast_49 (Int32.toNatClampNeg ((37 * zpasts_49) + x1_49)) (zs_49 (Int32.toNatClampNeg x1_49))))))
def f_X4_changes (N : Nat) (zs : Nat → Int32) (zpast : Nat → Int32) (zpasts : Int32) : Option ((Nat → Int32) × Int32) :=
    Option.bind (α := (Nat → Int32) × Int32) (if zpasts = 4 then (Option.bind (f_X4_changes_L10 N N 0 zpast) (fun q9 => some (q9, zpasts - 1))) else (some (zpast, zpasts))) (fun q2 => Option.bind (f_X4_changes_L49 N zs q2.2 N 0 q2.1) (fun q15 => some (q15, q2.2 + 1)))
set_option maxHeartbeats 4000000 in
set_option maxRecDepth 100000 in
theorem c_X4_changes (l : Launch) (D : va_G) (cI cC cH : ClassId) (a0 : Nat) (a_s : Nat) (a_past : Nat) (a_kept : Nat) (a_text : Nat) (a_measure : Nat) (a_chosen : Nat) (a_ways : Nat) (a_owners : Nat) (a_ranks : Nat) (a_sets : Nat) (a_toldAt : Nat) (a_line : Nat) (N : Nat) (zs : Nat → Int32) (zpast : Nat → Int32) (zisKept : Int32) (zpasts : Int32) (ztyped : Int32) (zmost1 : Int32) (zmost3 : Int32) (zmost5 : Int32) (zspot : Int32) (zreason : Int32) (zplaces : Int32) (y : (Nat → Int32) × Int32) (h : f_X4_changes N zs zpast zpasts = some y) : CTv l yX4_changes cX4_changes 2 none 0 0 D (tyL cI cC cH) [.ref a0] [(a0, .inr (3, [.ref a_s, .ref a_past, .ref a_kept, .int zisKept, .int zpasts, .ref a_text, .int ztyped, .ref a_measure, .int zmost1, .int zmost3, .int zmost5, .ref a_chosen, .ref a_ways, .int zspot, .int zreason, .int zplaces, .ref a_owners, .ref a_ranks, .ref a_sets, .ref a_toldAt, .ref a_line])), (a_s, .inl (cI, 37, .inl zs)), (a_past, .inl (cI, 148, .inl zpast))] [(a0, .inr (3, [.ref a_s, .ref a_past, .ref a_kept, .int zisKept, .int y.2, .ref a_text, .int ztyped, .ref a_measure, .int zmost1, .int zmost3, .int zmost5, .ref a_chosen, .ref a_ways, .int zspot, .int zreason, .int zplaces, .ref a_owners, .ref a_ranks, .ref a_sets, .ref a_toldAt, .ref a_line])), (a_s, .inl (cI, 37, .inl zs)), (a_past, .inl (cI, 148, .inl y.1))] := by
  unfold f_X4_changes at h
  refine ctV (by decide) (Nat.le_of_ble_eq_true rfl) ?_
  intro p e s m args below meth c A Q ls F hret hP hD hS hl
  have hx := F.1
  have hb := F.2.1
  have hown : s.vm.findClass RX4 = some m.cls := F.2.2.2.1
  have hts := F.2.2.2.2.1
  have hN := F.2.2.2.2.2.1
  have hK := F.2.2.2.2.2.2.1
  have hl : lv_has ls 2 [(0, .ref a0)] := hl
  refine lv_aload_n hx hb dX4_changes_0 rfl (lv_at hl 0 rfl) ?_
  refine va_get (D := D) (ci := 3) (v := .int zpasts) (C := RX4) (T := TX4) (N := 21) hx hb hts inG4 hown hK hP 0 rfl rfl 4 (by decide) (hts _ wd2_156) (fun _ h9 => h9) rfl dX4_changes_1 ?_
  refine lv_iconst (v := 4) hx hb dX4_changes_4 (by decide) ?_
  obtain ⟨q2, hb17, h⟩ := bd h
  have J3 : ∀ (ls : Array Slot) (H : Heap) (locs : List Loc), lv_has ls 2 [(0, .ref a0)] → va_P D vwCl [(a0, .inr (3, [.ref a_s, .ref a_past, .ref a_kept, .int zisKept, .int q2.2, .ref a_text, .int ztyped, .ref a_measure, .int zmost1, .int zmost3, .int zmost5, .ref a_chosen, .ref a_ways, .int zspot, .int zreason, .int zplaces, .ref a_owners, .ref a_ranks, .ref a_sets, .ref a_toldAt, .ref a_line])), (a_s, .inl (cI, 37, .inl zs)), (a_past, .inl (cI, 148, .inl q2.1))] H → va_D A [(a0, .inr (3, [.ref a_s, .ref a_past, .ref a_kept, .int zisKept, .int q2.2, .ref a_text, .int ztyped, .ref a_measure, .int zmost1, .int zmost3, .int zmost5, .ref a_chosen, .ref a_ways, .int zspot, .int zreason, .int zplaces, .ref a_owners, .ref a_ranks, .ref a_sets, .ref a_toldAt, .ref a_line])), (a_s, .inl (cI, 37, .inl zs)), (a_past, .inl (cI, 148, .inl q2.1))] → va_S A s.heap H locs → W p l e (rmm 0 0) s m args below meth c H locs 0 0 Q (F0 m 47 ls []) := by
    intro ls H locs hl hP hD hS
    refine lv_iconst (v := 0) hx hb dX4_changes_47 (by decide) ?_
    refine lv_istore_n (lv' := [(1, .int 0), (0, .ref a0)]) hx hb dX4_changes_48 rfl hl (by decide) rfl (fun ls hl => ?_)
    have L_49 : ∀ (zs_49 : Nat → Int32) (zisKept_49 : Int32) (zpasts_49 : Int32) (ztyped_49 : Int32) (zmost1_49 : Int32) (zmost3_49 : Int32) (zmost5_49 : Int32) (zspot_49 : Int32) (zreason_49 : Int32) (zplaces_49 : Int32), ∀ (n_49 : Nat) (x1_49 : Int32) (zpast_49 : Nat → Int32) (q14 : ((Nat → Int32))), f_X4_changes_L49 N zs_49 zpasts_49 n_49 x1_49 zpast_49 = some q14 → (∀ (ls : Array Slot) (H : Heap) (locs : List Loc), lv_has ls 2 [(0, .ref a0)] → va_P D vwCl [(a0, .inr (3, [.ref a_s, .ref a_past, .ref a_kept, .int zisKept_49, .int zpasts_49, .ref a_text, .int ztyped_49, .ref a_measure, .int zmost1_49, .int zmost3_49, .int zmost5_49, .ref a_chosen, .ref a_ways, .int zspot_49, .int zreason_49, .int zplaces_49, .ref a_owners, .ref a_ranks, .ref a_sets, .ref a_toldAt, .ref a_line])), (a_s, .inl (cI, 37, .inl zs_49)), (a_past, .inl (cI, 148, .inl q14))] H → va_D A [(a0, .inr (3, [.ref a_s, .ref a_past, .ref a_kept, .int zisKept_49, .int zpasts_49, .ref a_text, .int ztyped_49, .ref a_measure, .int zmost1_49, .int zmost3_49, .int zmost5_49, .ref a_chosen, .ref a_ways, .int zspot_49, .int zreason_49, .int zplaces_49, .ref a_owners, .ref a_ranks, .ref a_sets, .ref a_toldAt, .ref a_line])), (a_s, .inl (cI, 37, .inl zs_49)), (a_past, .inl (cI, 148, .inl q14))] → va_S A s.heap H locs → W p l e (rmm 0 0) s m args below meth c H locs 0 0 Q (F0 m 81 ls [])) → ∀ (ls : Array Slot) (H : Heap) (locs : List Loc), lv_has ls 2 [(0, .ref a0), (1, .int x1_49)] → va_P D vwCl [(a0, .inr (3, [.ref a_s, .ref a_past, .ref a_kept, .int zisKept_49, .int zpasts_49, .ref a_text, .int ztyped_49, .ref a_measure, .int zmost1_49, .int zmost3_49, .int zmost5_49, .ref a_chosen, .ref a_ways, .int zspot_49, .int zreason_49, .int zplaces_49, .ref a_owners, .ref a_ranks, .ref a_sets, .ref a_toldAt, .ref a_line])), (a_s, .inl (cI, 37, .inl zs_49)), (a_past, .inl (cI, 148, .inl zpast_49))] H → va_D A [(a0, .inr (3, [.ref a_s, .ref a_past, .ref a_kept, .int zisKept_49, .int zpasts_49, .ref a_text, .int ztyped_49, .ref a_measure, .int zmost1_49, .int zmost3_49, .int zmost5_49, .ref a_chosen, .ref a_ways, .int zspot_49, .int zreason_49, .int zplaces_49, .ref a_owners, .ref a_ranks, .ref a_sets, .ref a_toldAt, .ref a_line])), (a_s, .inl (cI, 37, .inl zs_49)), (a_past, .inl (cI, 148, .inl zpast_49))] → va_S A s.heap H locs → W p l e (rmm 0 0) s m args below meth c H locs 0 0 Q (F0 m 49 ls []) := by
      intro zs_49 zisKept_49 zpasts_49 ztyped_49 zmost1_49 zmost3_49 zmost5_49 zspot_49 zreason_49 zplaces_49 n_49
      induction n_49 with
      | zero => intro x1_49 zpast_49 q14 h; exact no_s h
      | succ n_49 ih_49 =>
        intro x1_49 zpast_49 q14 h J_49 ls H locs hl hP hD hS
        rw [f_X4_changes_L49] at h
        refine lv_iload_n hx hb dX4_changes_49 rfl (lv_at hl 1 rfl) ?_
        refine lv_bipush (v := 37) hx hb dX4_changes_50 (by decide) ?_
        refine lv_icmp_ge (tgt := 81) hx hb dX4_changes_52 (by decide) (fun c11 => ?_) (fun c11 => ?_)
        · have h := itT h c11
          obtain rfl := Option.some.inj h
          exact J_49 _ _ _ (lv_sub hl [0] rfl) hP hD hS
        · have h := itF h c11
          refine lv_aload_n hx hb dX4_changes_55 rfl (lv_at hl 0 rfl) ?_
          refine va_get (D := D) (ci := 3) (v := .ref a_past) (C := RX4) (T := TX4) (N := 21) hx hb hts inG4 hown hK hP 0 rfl rfl 1 (by decide) (hts _ wd2_153) (fun _ h9 => h9) rfl dX4_changes_56 ?_
          refine lv_bipush (v := 37) hx hb dX4_changes_59 (by decide) ?_
          refine lv_aload_n hx hb dX4_changes_61 rfl (lv_at hl 0 rfl) ?_
          refine va_get (D := D) (ci := 3) (v := .int zpasts_49) (C := RX4) (T := TX4) (N := 21) hx hb hts inG4 hown hK hP 0 rfl rfl 4 (by decide) (hts _ wd2_156) (fun _ h9 => h9) rfl dX4_changes_62 ?_
          refine lv_imul hx hb dX4_changes_65 ?_
          refine lv_iload_n hx hb dX4_changes_66 rfl (lv_at hl 1 rfl) ?_
          refine lv_iadd hx hb dX4_changes_67 ?_
          refine lv_aload_n hx hb dX4_changes_68 rfl (lv_at hl 0 rfl) ?_
          refine va_get (D := D) (ci := 3) (v := .ref a_s) (C := RX4) (T := TX4) (N := 21) hx hb hts inG4 hown hK hP 0 rfl rfl 0 (by decide) (hts _ wd2_152) (fun _ h9 => h9) rfl dX4_changes_69 ?_
          refine lv_iload_n hx hb dX4_changes_72 rfl (lv_at hl 1 rfl) ?_
          obtain ⟨g12, h⟩ := chk_s h
          refine va_iald hx hb hK hP 1 0 rfl rfl (gi_in g12) dX4_changes_73 ?_
          obtain ⟨g13, h⟩ := chk_s h
          refine va_iast hx hb hK hP hD hS 2 0 rfl rfl (gi_in g13) dX4_changes_74 (fun H locs hP hD hS => ?_)
          have hP : va_P D vwCl [(a0, .inr (3, [.ref a_s, .ref a_past, .ref a_kept, .int zisKept_49, .int zpasts_49, .ref a_text, .int ztyped_49, .ref a_measure, .int zmost1_49, .int zmost3_49, .int zmost5_49, .ref a_chosen, .ref a_ways, .int zspot_49, .int zreason_49, .int zplaces_49, .ref a_owners, .ref a_ranks, .ref a_sets, .ref a_toldAt, .ref a_line])), (a_s, .inl (cI, 37, .inl zs_49)), (a_past, .inl (cI, 148, .inl (upd zpast_49 (Int32.toNatClampNeg ((37 * zpasts_49) + x1_49)) (zs_49 (Int32.toNatClampNeg x1_49)))))] H := hP
          have hD : va_D A [(a0, .inr (3, [.ref a_s, .ref a_past, .ref a_kept, .int zisKept_49, .int zpasts_49, .ref a_text, .int ztyped_49, .ref a_measure, .int zmost1_49, .int zmost3_49, .int zmost5_49, .ref a_chosen, .ref a_ways, .int zspot_49, .int zreason_49, .int zplaces_49, .ref a_owners, .ref a_ranks, .ref a_sets, .ref a_toldAt, .ref a_line])), (a_s, .inl (cI, 37, .inl zs_49)), (a_past, .inl (cI, 148, .inl (upd zpast_49 (Int32.toNatClampNeg ((37 * zpasts_49) + x1_49)) (zs_49 (Int32.toNatClampNeg x1_49)))))] := hD
          refine lv_iinc (v := x1_49 + 1) (lv' := [(1, .int (x1_49 + 1)), (0, .ref a0)]) hx hb dX4_changes_75 hl (k := 1) rfl rfl (by decide) rfl (fun ls hl => ?_)
          refine lv_goto (tgt := 49) hx hb dX4_changes_78 (by decide) ?_
          exact ih_49 (x1_49 + 1) (upd zpast_49 (Int32.toNatClampNeg ((37 * zpasts_49) + x1_49)) (zs_49 (Int32.toNatClampNeg x1_49))) _ h J_49 _ _ _ (lv_sub hl [1, 0] rfl) hP hD hS
    obtain ⟨q15, hb16, h⟩ := bd h
    refine L_49 zs zisKept q2.2 ztyped zmost1 zmost3 zmost5 zspot zreason zplaces N 0 q2.1 q15 hb16 ?_ _ _ _ (lv_sub hl [1, 0] rfl) hP hD hS
    intro ls H locs hl hP hD hS
    refine lv_aload_n hx hb dX4_changes_81 rfl (lv_at hl 0 rfl) ?_
    refine lv_dup hx hb dX4_changes_82 rfl ?_
    refine va_get (D := D) (ci := 3) (v := .int q2.2) (C := RX4) (T := TX4) (N := 21) hx hb hts inG4 hown hK hP 0 rfl rfl 4 (by decide) (hts _ wd2_156) (fun _ h9 => h9) rfl dX4_changes_83 ?_
    refine lv_iconst (v := 1) hx hb dX4_changes_86 (by decide) ?_
    refine lv_iadd hx hb dX4_changes_87 ?_
    refine va_put (D := D) (ci := 3) (v := .int (q2.2 + 1)) (ty := .int) (C := RX4) (T := TX4) (N := 21) hx hb hts inG4 tyX4 tyX4_ok nmX4 hown hK hP hD hS 0 rfl rfl 4 (by decide) (hts _ wd2_156) (fun _ h9 => h9) rfl (by decide +kernel) rfl rfl (Nat.le_of_ble_eq_true rfl) dX4_changes_88 (fun H locs hP hD hS => ?_)
    have hP : va_P D vwCl [(a0, .inr (3, [.ref a_s, .ref a_past, .ref a_kept, .int zisKept, .int (q2.2 + 1), .ref a_text, .int ztyped, .ref a_measure, .int zmost1, .int zmost3, .int zmost5, .ref a_chosen, .ref a_ways, .int zspot, .int zreason, .int zplaces, .ref a_owners, .ref a_ranks, .ref a_sets, .ref a_toldAt, .ref a_line])), (a_s, .inl (cI, 37, .inl zs)), (a_past, .inl (cI, 148, .inl q15))] H := hP
    have hD : va_D A [(a0, .inr (3, [.ref a_s, .ref a_past, .ref a_kept, .int zisKept, .int (q2.2 + 1), .ref a_text, .int ztyped, .ref a_measure, .int zmost1, .int zmost3, .int zmost5, .ref a_chosen, .ref a_ways, .int zspot, .int zreason, .int zplaces, .ref a_owners, .ref a_ranks, .ref a_sets, .ref a_toldAt, .ref a_line])), (a_s, .inl (cI, 37, .inl zs)), (a_past, .inl (cI, 148, .inl q15))] := hD
    obtain rfl := Option.some.inj h
    exact hret _ _ _ _ hP hD hS dX4_changes_91
  clear h
  have h := hb17
  clear hb17
  refine lv_icmp_ne (tgt := 47) hx hb dX4_changes_5 (by decide) (fun c1 => ?_) (fun c1 => ?_)
  · have h := itF h c1
    obtain rfl := Option.some.inj h
    exact J3 _ _ _ (lv_sub hl [0] rfl) hP hD hS
  · have h := itT h c1
    refine lv_iconst (v := 0) hx hb dX4_changes_8 (by decide) ?_
    refine lv_istore_n (lv' := [(1, .int 0), (0, .ref a0)]) hx hb dX4_changes_9 rfl hl (by decide) rfl (fun ls hl => ?_)
    have L_10 : ∀ (zs_10 : Nat → Int32) (zisKept_10 : Int32) (zpasts_10 : Int32) (ztyped_10 : Int32) (zmost1_10 : Int32) (zmost3_10 : Int32) (zmost5_10 : Int32) (zspot_10 : Int32) (zreason_10 : Int32) (zplaces_10 : Int32), ∀ (n_10 : Nat) (x1_10 : Int32) (zpast_10 : Nat → Int32) (q8 : ((Nat → Int32))), f_X4_changes_L10 N n_10 x1_10 zpast_10 = some q8 → (∀ (ls : Array Slot) (H : Heap) (locs : List Loc), lv_has ls 2 [(0, .ref a0)] → va_P D vwCl [(a0, .inr (3, [.ref a_s, .ref a_past, .ref a_kept, .int zisKept_10, .int zpasts_10, .ref a_text, .int ztyped_10, .ref a_measure, .int zmost1_10, .int zmost3_10, .int zmost5_10, .ref a_chosen, .ref a_ways, .int zspot_10, .int zreason_10, .int zplaces_10, .ref a_owners, .ref a_ranks, .ref a_sets, .ref a_toldAt, .ref a_line])), (a_s, .inl (cI, 37, .inl zs_10)), (a_past, .inl (cI, 148, .inl q8))] H → va_D A [(a0, .inr (3, [.ref a_s, .ref a_past, .ref a_kept, .int zisKept_10, .int zpasts_10, .ref a_text, .int ztyped_10, .ref a_measure, .int zmost1_10, .int zmost3_10, .int zmost5_10, .ref a_chosen, .ref a_ways, .int zspot_10, .int zreason_10, .int zplaces_10, .ref a_owners, .ref a_ranks, .ref a_sets, .ref a_toldAt, .ref a_line])), (a_s, .inl (cI, 37, .inl zs_10)), (a_past, .inl (cI, 148, .inl q8))] → va_S A s.heap H locs → W p l e (rmm 0 0) s m args below meth c H locs 0 0 Q (F0 m 37 ls [])) → ∀ (ls : Array Slot) (H : Heap) (locs : List Loc), lv_has ls 2 [(0, .ref a0), (1, .int x1_10)] → va_P D vwCl [(a0, .inr (3, [.ref a_s, .ref a_past, .ref a_kept, .int zisKept_10, .int zpasts_10, .ref a_text, .int ztyped_10, .ref a_measure, .int zmost1_10, .int zmost3_10, .int zmost5_10, .ref a_chosen, .ref a_ways, .int zspot_10, .int zreason_10, .int zplaces_10, .ref a_owners, .ref a_ranks, .ref a_sets, .ref a_toldAt, .ref a_line])), (a_s, .inl (cI, 37, .inl zs_10)), (a_past, .inl (cI, 148, .inl zpast_10))] H → va_D A [(a0, .inr (3, [.ref a_s, .ref a_past, .ref a_kept, .int zisKept_10, .int zpasts_10, .ref a_text, .int ztyped_10, .ref a_measure, .int zmost1_10, .int zmost3_10, .int zmost5_10, .ref a_chosen, .ref a_ways, .int zspot_10, .int zreason_10, .int zplaces_10, .ref a_owners, .ref a_ranks, .ref a_sets, .ref a_toldAt, .ref a_line])), (a_s, .inl (cI, 37, .inl zs_10)), (a_past, .inl (cI, 148, .inl zpast_10))] → va_S A s.heap H locs → W p l e (rmm 0 0) s m args below meth c H locs 0 0 Q (F0 m 10 ls []) := by
      intro zs_10 zisKept_10 zpasts_10 ztyped_10 zmost1_10 zmost3_10 zmost5_10 zspot_10 zreason_10 zplaces_10 n_10
      induction n_10 with
      | zero => intro x1_10 zpast_10 q8 h; exact no_s h
      | succ n_10 ih_10 =>
        intro x1_10 zpast_10 q8 h J_10 ls H locs hl hP hD hS
        rw [f_X4_changes_L10] at h
        refine lv_iload_n hx hb dX4_changes_10 rfl (lv_at hl 1 rfl) ?_
        refine lv_bipush (v := 111) hx hb dX4_changes_11 (by decide) ?_
        refine lv_icmp_ge (tgt := 37) hx hb dX4_changes_13 (by decide) (fun c5 => ?_) (fun c5 => ?_)
        · have h := itT h c5
          obtain rfl := Option.some.inj h
          exact J_10 _ _ _ (lv_sub hl [0] rfl) hP hD hS
        · have h := itF h c5
          refine lv_aload_n hx hb dX4_changes_16 rfl (lv_at hl 0 rfl) ?_
          refine va_get (D := D) (ci := 3) (v := .ref a_past) (C := RX4) (T := TX4) (N := 21) hx hb hts inG4 hown hK hP 0 rfl rfl 1 (by decide) (hts _ wd2_153) (fun _ h9 => h9) rfl dX4_changes_17 ?_
          refine lv_iload_n hx hb dX4_changes_20 rfl (lv_at hl 1 rfl) ?_
          refine lv_aload_n hx hb dX4_changes_21 rfl (lv_at hl 0 rfl) ?_
          refine va_get (D := D) (ci := 3) (v := .ref a_past) (C := RX4) (T := TX4) (N := 21) hx hb hts inG4 hown hK hP 0 rfl rfl 1 (by decide) (hts _ wd2_153) (fun _ h9 => h9) rfl dX4_changes_22 ?_
          refine lv_iload_n hx hb dX4_changes_25 rfl (lv_at hl 1 rfl) ?_
          refine lv_bipush (v := 37) hx hb dX4_changes_26 (by decide) ?_
          refine lv_iadd hx hb dX4_changes_28 ?_
          obtain ⟨g6, h⟩ := chk_s h
          refine va_iald hx hb hK hP 2 0 rfl rfl (gi_in g6) dX4_changes_29 ?_
          obtain ⟨g7, h⟩ := chk_s h
          refine va_iast hx hb hK hP hD hS 2 0 rfl rfl (gi_in g7) dX4_changes_30 (fun H locs hP hD hS => ?_)
          have hP : va_P D vwCl [(a0, .inr (3, [.ref a_s, .ref a_past, .ref a_kept, .int zisKept_10, .int zpasts_10, .ref a_text, .int ztyped_10, .ref a_measure, .int zmost1_10, .int zmost3_10, .int zmost5_10, .ref a_chosen, .ref a_ways, .int zspot_10, .int zreason_10, .int zplaces_10, .ref a_owners, .ref a_ranks, .ref a_sets, .ref a_toldAt, .ref a_line])), (a_s, .inl (cI, 37, .inl zs_10)), (a_past, .inl (cI, 148, .inl (upd zpast_10 (Int32.toNatClampNeg x1_10) (zpast_10 (Int32.toNatClampNeg (x1_10 + 37))))))] H := hP
          have hD : va_D A [(a0, .inr (3, [.ref a_s, .ref a_past, .ref a_kept, .int zisKept_10, .int zpasts_10, .ref a_text, .int ztyped_10, .ref a_measure, .int zmost1_10, .int zmost3_10, .int zmost5_10, .ref a_chosen, .ref a_ways, .int zspot_10, .int zreason_10, .int zplaces_10, .ref a_owners, .ref a_ranks, .ref a_sets, .ref a_toldAt, .ref a_line])), (a_s, .inl (cI, 37, .inl zs_10)), (a_past, .inl (cI, 148, .inl (upd zpast_10 (Int32.toNatClampNeg x1_10) (zpast_10 (Int32.toNatClampNeg (x1_10 + 37))))))] := hD
          refine lv_iinc (v := x1_10 + 1) (lv' := [(1, .int (x1_10 + 1)), (0, .ref a0)]) hx hb dX4_changes_31 hl (k := 1) rfl rfl (by decide) rfl (fun ls hl => ?_)
          refine lv_goto (tgt := 10) hx hb dX4_changes_34 (by decide) ?_
          exact ih_10 (x1_10 + 1) (upd zpast_10 (Int32.toNatClampNeg x1_10) (zpast_10 (Int32.toNatClampNeg (x1_10 + 37)))) _ h J_10 _ _ _ (lv_sub hl [1, 0] rfl) hP hD hS
    obtain ⟨q9, hb10, h⟩ := bd h
    refine L_10 zs zisKept zpasts ztyped zmost1 zmost3 zmost5 zspot zreason zplaces N 0 zpast q9 hb10 ?_ _ _ _ (lv_sub hl [1, 0] rfl) hP hD hS
    intro ls H locs hl hP hD hS
    refine lv_aload_n hx hb dX4_changes_37 rfl (lv_at hl 0 rfl) ?_
    refine lv_dup hx hb dX4_changes_38 rfl ?_
    refine va_get (D := D) (ci := 3) (v := .int zpasts) (C := RX4) (T := TX4) (N := 21) hx hb hts inG4 hown hK hP 0 rfl rfl 4 (by decide) (hts _ wd2_156) (fun _ h9 => h9) rfl dX4_changes_39 ?_
    refine lv_iconst (v := 1) hx hb dX4_changes_42 (by decide) ?_
    refine lv_isub hx hb dX4_changes_43 ?_
    refine va_put (D := D) (ci := 3) (v := .int (zpasts - 1)) (ty := .int) (C := RX4) (T := TX4) (N := 21) hx hb hts inG4 tyX4 tyX4_ok nmX4 hown hK hP hD hS 0 rfl rfl 4 (by decide) (hts _ wd2_156) (fun _ h9 => h9) rfl (by decide +kernel) rfl rfl (Nat.le_of_ble_eq_true rfl) dX4_changes_44 (fun H locs hP hD hS => ?_)
    have hP : va_P D vwCl [(a0, .inr (3, [.ref a_s, .ref a_past, .ref a_kept, .int zisKept, .int (zpasts - 1), .ref a_text, .int ztyped, .ref a_measure, .int zmost1, .int zmost3, .int zmost5, .ref a_chosen, .ref a_ways, .int zspot, .int zreason, .int zplaces, .ref a_owners, .ref a_ranks, .ref a_sets, .ref a_toldAt, .ref a_line])), (a_s, .inl (cI, 37, .inl zs)), (a_past, .inl (cI, 148, .inl q9))] H := hP
    have hD : va_D A [(a0, .inr (3, [.ref a_s, .ref a_past, .ref a_kept, .int zisKept, .int (zpasts - 1), .ref a_text, .int ztyped, .ref a_measure, .int zmost1, .int zmost3, .int zmost5, .ref a_chosen, .ref a_ways, .int zspot, .int zreason, .int zplaces, .ref a_owners, .ref a_ranks, .ref a_sets, .ref a_toldAt, .ref a_line])), (a_s, .inl (cI, 37, .inl zs)), (a_past, .inl (cI, 148, .inl q9))] := hD
    obtain rfl := Option.some.inj h
    exact J3 _ _ _ (lv_sub hl [0] rfl) hP hD hS
def f_X4_isPlace (N : Nat) (x1 : Int32) (zs : Nat → Int32) : Option (Int32) :=
    if x1 < 0 then (some 0) else (chk (gi 0 37) (if (zs (Int32.toNatClampNeg 0)) ≤ x1 then (some 0) else (some 1)))
set_option maxHeartbeats 4000000 in
set_option maxRecDepth 100000 in
theorem c_X4_isPlace (l : Launch) (D : va_G) (cI cC cH : ClassId) (a0 : Nat) (a_s : Nat) (a_past : Nat) (a_kept : Nat) (a_text : Nat) (a_measure : Nat) (a_chosen : Nat) (a_ways : Nat) (a_owners : Nat) (a_ranks : Nat) (a_sets : Nat) (a_toldAt : Nat) (a_line : Nat) (N : Nat) (x1 : Int32) (zs : Nat → Int32) (zisKept : Int32) (zpasts : Int32) (ztyped : Int32) (zmost1 : Int32) (zmost3 : Int32) (zmost5 : Int32) (zspot : Int32) (zreason : Int32) (zplaces : Int32) (y : Int32) (h : f_X4_isPlace N x1 zs = some y) : CTi l yX4_isPlace cX4_isPlace 2 (some .boolean) 0 0 D (tyL cI cC cH) [.ref a0, .int x1] [(a0, .inr (3, [.ref a_s, .ref a_past, .ref a_kept, .int zisKept, .int zpasts, .ref a_text, .int ztyped, .ref a_measure, .int zmost1, .int zmost3, .int zmost5, .ref a_chosen, .ref a_ways, .int zspot, .int zreason, .int zplaces, .ref a_owners, .ref a_ranks, .ref a_sets, .ref a_toldAt, .ref a_line])), (a_s, .inl (cI, 37, .inl zs))] [(a0, .inr (3, [.ref a_s, .ref a_past, .ref a_kept, .int zisKept, .int zpasts, .ref a_text, .int ztyped, .ref a_measure, .int zmost1, .int zmost3, .int zmost5, .ref a_chosen, .ref a_ways, .int zspot, .int zreason, .int zplaces, .ref a_owners, .ref a_ranks, .ref a_sets, .ref a_toldAt, .ref a_line])), (a_s, .inl (cI, 37, .inl zs))] y := by
  unfold f_X4_isPlace at h
  refine ctZ (by decide) (Nat.le_of_ble_eq_true rfl) ?_
  intro p e s m args below meth c A Q ls F hret hP hD hS hl
  have hx := F.1
  have hb := F.2.1
  have hown : s.vm.findClass RX4 = some m.cls := F.2.2.2.1
  have hts := F.2.2.2.2.1
  have hN := F.2.2.2.2.2.1
  have hK := F.2.2.2.2.2.2.1
  have hl : lv_has ls 2 [(0, .ref a0), (1, .int x1)] := hl
  refine lv_iload_n hx hb dX4_isPlace_0 rfl (lv_at hl 1 rfl) ?_
  refine lv_if_lt (tgt := 18) hx hb dX4_isPlace_1 (by decide) (fun c1 => ?_) (fun c1 => ?_)
  · have h := itT h c1
    refine lv_iconst (v := 0) hx hb dX4_isPlace_18 (by decide) ?_
    obtain rfl := Option.some.inj h
    exact hret _ _ _ _ _ rfl rfl hP hD hS dX4_isPlace_19
  · have h := itF h c1
    refine lv_iload_n hx hb dX4_isPlace_4 rfl (lv_at hl 1 rfl) ?_
    refine lv_aload_n hx hb dX4_isPlace_5 rfl (lv_at hl 0 rfl) ?_
    refine va_get (D := D) (ci := 3) (v := .ref a_s) (C := RX4) (T := TX4) (N := 21) hx hb hts inG4 hown hK hP 0 rfl rfl 0 (by decide) (hts _ wd2_152) (fun _ h9 => h9) rfl dX4_isPlace_6 ?_
    refine lv_iconst (v := 0) hx hb dX4_isPlace_9 (by decide) ?_
    obtain ⟨g2, h⟩ := chk_s h
    refine va_iald hx hb hK hP 1 0 rfl rfl (gi_in g2) dX4_isPlace_10 ?_
    refine lv_icmp_ge (tgt := 18) hx hb dX4_isPlace_11 (by decide) (fun c3 => ?_) (fun c3 => ?_)
    · have h := itT h c3
      refine lv_iconst (v := 0) hx hb dX4_isPlace_18 (by decide) ?_
      obtain rfl := Option.some.inj h
      exact hret _ _ _ _ _ rfl rfl hP hD hS dX4_isPlace_19
    · have h := itF h c3
      refine lv_iconst (v := 1) hx hb dX4_isPlace_14 (by decide) ?_
      refine lv_goto (tgt := 19) hx hb dX4_isPlace_15 (by decide) ?_
      obtain rfl := Option.some.inj h
      exact hret _ _ _ _ _ rfl rfl hP hD hS dX4_isPlace_19
def f_X4_all (N : Nat) (zs : Nat → Int32) : Option (Int32) :=
    chk (gi 0 37) (some (((1 : Int32) <<< ((zs (Int32.toNatClampNeg 0)) &&& 31)) - 1))
set_option maxHeartbeats 4000000 in
set_option maxRecDepth 100000 in
theorem c_X4_all (l : Launch) (D : va_G) (cI cC cH : ClassId) (a0 : Nat) (a_s : Nat) (a_past : Nat) (a_kept : Nat) (a_text : Nat) (a_measure : Nat) (a_chosen : Nat) (a_ways : Nat) (a_owners : Nat) (a_ranks : Nat) (a_sets : Nat) (a_toldAt : Nat) (a_line : Nat) (N : Nat) (zs : Nat → Int32) (zisKept : Int32) (zpasts : Int32) (ztyped : Int32) (zmost1 : Int32) (zmost3 : Int32) (zmost5 : Int32) (zspot : Int32) (zreason : Int32) (zplaces : Int32) (y : Int32) (h : f_X4_all N zs = some y) : CTi l yX4_all cX4_all 1 (some .int) 0 0 D (tyL cI cC cH) [.ref a0] [(a0, .inr (3, [.ref a_s, .ref a_past, .ref a_kept, .int zisKept, .int zpasts, .ref a_text, .int ztyped, .ref a_measure, .int zmost1, .int zmost3, .int zmost5, .ref a_chosen, .ref a_ways, .int zspot, .int zreason, .int zplaces, .ref a_owners, .ref a_ranks, .ref a_sets, .ref a_toldAt, .ref a_line])), (a_s, .inl (cI, 37, .inl zs))] [(a0, .inr (3, [.ref a_s, .ref a_past, .ref a_kept, .int zisKept, .int zpasts, .ref a_text, .int ztyped, .ref a_measure, .int zmost1, .int zmost3, .int zmost5, .ref a_chosen, .ref a_ways, .int zspot, .int zreason, .int zplaces, .ref a_owners, .ref a_ranks, .ref a_sets, .ref a_toldAt, .ref a_line])), (a_s, .inl (cI, 37, .inl zs))] y := by
  unfold f_X4_all at h
  refine ctI (by decide) (Nat.le_of_ble_eq_true rfl) ?_
  intro p e s m args below meth c A Q ls F hret hP hD hS hl
  have hx := F.1
  have hb := F.2.1
  have hown : s.vm.findClass RX4 = some m.cls := F.2.2.2.1
  have hts := F.2.2.2.2.1
  have hN := F.2.2.2.2.2.1
  have hK := F.2.2.2.2.2.2.1
  have hl : lv_has ls 1 [(0, .ref a0)] := hl
  refine lv_iconst (v := 1) hx hb dX4_all_0 (by decide) ?_
  refine lv_aload_n hx hb dX4_all_1 rfl (lv_at hl 0 rfl) ?_
  refine va_get (D := D) (ci := 3) (v := .ref a_s) (C := RX4) (T := TX4) (N := 21) hx hb hts inG4 hown hK hP 0 rfl rfl 0 (by decide) (hts _ wd2_152) (fun _ h9 => h9) rfl dX4_all_2 ?_
  refine lv_iconst (v := 0) hx hb dX4_all_5 (by decide) ?_
  obtain ⟨g1, h⟩ := chk_s h
  refine va_iald hx hb hK hP 1 0 rfl rfl (gi_in g1) dX4_all_6 ?_
  refine lv_ishl hx hb dX4_all_7 ?_
  refine lv_iconst (v := 1) hx hb dX4_all_8 (by decide) ?_
  refine lv_isub hx hb dX4_all_9 ?_
  obtain rfl := Option.some.inj h
  exact hret _ _ _ _ _ rfl hP hD hS dX4_all_10
def f_X4_hasWay (N : Nat) (x1 : Int32) (x2 : Int32) (zs : Nat → Int32) : Option (Int32) :=
    chk (gi (25 + x1) 37) (if (((zs (Int32.toNatClampNeg (25 + x1))) >>> (x2 &&& 31)) &&& 1) = 1 then (some 1) else (some 0))
set_option maxHeartbeats 4000000 in
set_option maxRecDepth 100000 in
theorem c_X4_hasWay (l : Launch) (D : va_G) (cI cC cH : ClassId) (a0 : Nat) (a_s : Nat) (a_past : Nat) (a_kept : Nat) (a_text : Nat) (a_measure : Nat) (a_chosen : Nat) (a_ways : Nat) (a_owners : Nat) (a_ranks : Nat) (a_sets : Nat) (a_toldAt : Nat) (a_line : Nat) (N : Nat) (x1 : Int32) (x2 : Int32) (zs : Nat → Int32) (zisKept : Int32) (zpasts : Int32) (ztyped : Int32) (zmost1 : Int32) (zmost3 : Int32) (zmost5 : Int32) (zspot : Int32) (zreason : Int32) (zplaces : Int32) (y : Int32) (h : f_X4_hasWay N x1 x2 zs = some y) : CTi l yX4_hasWay cX4_hasWay 3 (some .boolean) 0 0 D (tyL cI cC cH) [.ref a0, .int x1, .int x2] [(a0, .inr (3, [.ref a_s, .ref a_past, .ref a_kept, .int zisKept, .int zpasts, .ref a_text, .int ztyped, .ref a_measure, .int zmost1, .int zmost3, .int zmost5, .ref a_chosen, .ref a_ways, .int zspot, .int zreason, .int zplaces, .ref a_owners, .ref a_ranks, .ref a_sets, .ref a_toldAt, .ref a_line])), (a_s, .inl (cI, 37, .inl zs))] [(a0, .inr (3, [.ref a_s, .ref a_past, .ref a_kept, .int zisKept, .int zpasts, .ref a_text, .int ztyped, .ref a_measure, .int zmost1, .int zmost3, .int zmost5, .ref a_chosen, .ref a_ways, .int zspot, .int zreason, .int zplaces, .ref a_owners, .ref a_ranks, .ref a_sets, .ref a_toldAt, .ref a_line])), (a_s, .inl (cI, 37, .inl zs))] y := by
  unfold f_X4_hasWay at h
  refine ctZ (by decide) (Nat.le_of_ble_eq_true rfl) ?_
  intro p e s m args below meth c A Q ls F hret hP hD hS hl
  have hx := F.1
  have hb := F.2.1
  have hown : s.vm.findClass RX4 = some m.cls := F.2.2.2.1
  have hts := F.2.2.2.2.1
  have hN := F.2.2.2.2.2.1
  have hK := F.2.2.2.2.2.2.1
  have hl : lv_has ls 3 [(0, .ref a0), (1, .int x1), (2, .int x2)] := hl
  refine lv_aload_n hx hb dX4_hasWay_0 rfl (lv_at hl 0 rfl) ?_
  refine va_get (D := D) (ci := 3) (v := .ref a_s) (C := RX4) (T := TX4) (N := 21) hx hb hts inG4 hown hK hP 0 rfl rfl 0 (by decide) (hts _ wd2_152) (fun _ h9 => h9) rfl dX4_hasWay_1 ?_
  refine lv_bipush (v := 25) hx hb dX4_hasWay_4 (by decide) ?_
  refine lv_iload_n hx hb dX4_hasWay_6 rfl (lv_at hl 1 rfl) ?_
  refine lv_iadd hx hb dX4_hasWay_7 ?_
  obtain ⟨g1, h⟩ := chk_s h
  refine va_iald hx hb hK hP 1 0 rfl rfl (gi_in g1) dX4_hasWay_8 ?_
  refine lv_iload_n hx hb dX4_hasWay_9 rfl (lv_at hl 2 rfl) ?_
  refine lv_ishr hx hb dX4_hasWay_10 ?_
  refine lv_iconst (v := 1) hx hb dX4_hasWay_11 (by decide) ?_
  refine lv_iand hx hb dX4_hasWay_12 ?_
  refine lv_iconst (v := 1) hx hb dX4_hasWay_13 (by decide) ?_
  refine lv_icmp_ne (tgt := 21) hx hb dX4_hasWay_14 (by decide) (fun c2 => ?_) (fun c2 => ?_)
  · have h := itF h c2
    refine lv_iconst (v := 0) hx hb dX4_hasWay_21 (by decide) ?_
    obtain rfl := Option.some.inj h
    exact hret _ _ _ _ _ rfl rfl hP hD hS dX4_hasWay_22
  · have h := itT h c2
    refine lv_iconst (v := 1) hx hb dX4_hasWay_17 (by decide) ?_
    refine lv_goto (tgt := 22) hx hb dX4_hasWay_18 (by decide) ?_
    obtain rfl := Option.some.inj h
    exact hret _ _ _ _ _ rfl rfl hP hD hS dX4_hasWay_22
def f_X4_ones_L4 (N : Nat) (x0_4 : Int32) : Nat → Int32 → Int32 → Option (Int32)
  | 0, _, _ => none
  | n_4 + 1, x1_4, x2_4 =>
    if 12 ≤ x2_4 then (some x1_4) else (f_X4_ones_L4 N x0_4 n_4 (x1_4 + ((x0_4 >>> (x2_4 &&& 31)) &&& 1)) (x2_4 + 1))
def f_X4_ones (N : Nat) (x0 : Int32) : Option (Int32) :=
    Option.bind (f_X4_ones_L4 N x0 N 0 0) (fun q3 => some q3)
set_option maxHeartbeats 4000000 in
set_option maxRecDepth 100000 in
theorem c_X4_ones (l : Launch) (D : va_G) (cI cC cH : ClassId) (N : Nat) (x0 : Int32) (y : Int32) (h : f_X4_ones N x0 = some y) : CTi l yX4_ones cX4_ones 3 (some .int) 0 0 D (tyL cI cC cH) [.int x0] [] [] y := by
  unfold f_X4_ones at h
  refine ctI (by decide) (Nat.le_of_ble_eq_true rfl) ?_
  intro p e s m args below meth c A Q ls F hret hP hD hS hl
  have hx := F.1
  have hb := F.2.1
  have hown : s.vm.findClass RX4 = some m.cls := F.2.2.2.1
  have hts := F.2.2.2.2.1
  have hN := F.2.2.2.2.2.1
  have hK := F.2.2.2.2.2.2.1
  have hl : lv_has ls 3 [(0, .int x0)] := hl
  refine lv_iconst (v := 0) hx hb dX4_ones_0 (by decide) ?_
  refine lv_istore_n (lv' := [(1, .int 0), (0, .int x0)]) hx hb dX4_ones_1 rfl hl (by decide) rfl (fun ls hl => ?_)
  refine lv_iconst (v := 0) hx hb dX4_ones_2 (by decide) ?_
  refine lv_istore_n (lv' := [(2, .int 0), (1, .int 0), (0, .int x0)]) hx hb dX4_ones_3 rfl hl (by decide) rfl (fun ls hl => ?_)
  have L_4 : ∀ (x0_4 : Int32), ∀ (n_4 : Nat) (x1_4 : Int32) (x2_4 : Int32) (q2 : (Int32)), f_X4_ones_L4 N x0_4 n_4 x1_4 x2_4 = some q2 → (∀ (ls : Array Slot) (H : Heap) (locs : List Loc), lv_has ls 3 [(1, .int q2)] → va_P D vwCl [] H → va_D A [] → va_S A s.heap H locs → W p l e (rmm 0 0) s m args below meth c H locs 0 0 Q (F0 m 24 ls [])) → ∀ (ls : Array Slot) (H : Heap) (locs : List Loc), lv_has ls 3 [(0, .int x0_4), (1, .int x1_4), (2, .int x2_4)] → va_P D vwCl [] H → va_D A [] → va_S A s.heap H locs → W p l e (rmm 0 0) s m args below meth c H locs 0 0 Q (F0 m 4 ls []) := by
    intro x0_4 n_4
    induction n_4 with
    | zero => intro x1_4 x2_4 q2 h; exact no_s h
    | succ n_4 ih_4 =>
      intro x1_4 x2_4 q2 h J_4 ls H locs hl hP hD hS
      rw [f_X4_ones_L4] at h
      refine lv_iload_n hx hb dX4_ones_4 rfl (lv_at hl 2 rfl) ?_
      refine lv_bipush (v := 12) hx hb dX4_ones_5 (by decide) ?_
      refine lv_icmp_ge (tgt := 24) hx hb dX4_ones_7 (by decide) (fun c1 => ?_) (fun c1 => ?_)
      · have h := itT h c1
        obtain rfl := Option.some.inj h
        exact J_4 _ _ _ (lv_sub hl [1] rfl) hP hD hS
      · have h := itF h c1
        refine lv_iload_n hx hb dX4_ones_10 rfl (lv_at hl 1 rfl) ?_
        refine lv_iload_n hx hb dX4_ones_11 rfl (lv_at hl 0 rfl) ?_
        refine lv_iload_n hx hb dX4_ones_12 rfl (lv_at hl 2 rfl) ?_
        refine lv_ishr hx hb dX4_ones_13 ?_
        refine lv_iconst (v := 1) hx hb dX4_ones_14 (by decide) ?_
        refine lv_iand hx hb dX4_ones_15 ?_
        refine lv_iadd hx hb dX4_ones_16 ?_
        refine lv_istore_n (lv' := [(1, .int (x1_4 + ((x0_4 >>> (x2_4 &&& 31)) &&& 1))), (0, .int x0_4), (2, .int x2_4)]) hx hb dX4_ones_17 rfl hl (by decide) rfl (fun ls hl => ?_)
        refine lv_iinc (v := x2_4 + 1) (lv' := [(2, .int (x2_4 + 1)), (1, .int (x1_4 + ((x0_4 >>> (x2_4 &&& 31)) &&& 1))), (0, .int x0_4)]) hx hb dX4_ones_18 hl (k := 2) rfl rfl (by decide) rfl (fun ls hl => ?_)
        refine lv_goto (tgt := 4) hx hb dX4_ones_21 (by decide) ?_
        exact ih_4 (x1_4 + ((x0_4 >>> (x2_4 &&& 31)) &&& 1)) (x2_4 + 1) _ h J_4 _ _ _ (lv_sub hl [2, 1, 0] rfl) hP hD hS
  obtain ⟨q3, hb4, h⟩ := bd h
  refine L_4 x0 N 0 0 q3 hb4 ?_ _ _ _ (lv_sub hl [2, 1, 0] rfl) hP hD hS
  intro ls H locs hl hP hD hS
  refine lv_iload_n hx hb dX4_ones_24 rfl (lv_at hl 0 rfl) ?_
  obtain rfl := Option.some.inj h
  exact hret _ _ _ _ _ rfl hP hD hS dX4_ones_25
def f_X4_lowest_L2 (N : Nat) (x0_2 : Int32) : Nat → Int32 → Option (Int32)
  | 0, _ => none
  | n_2 + 1, x1_2 =>
    if 12 ≤ x1_2 then (some x1_2) else (if ((x0_2 >>> (x1_2 &&& 31)) &&& 1) = 0 then (f_X4_lowest_L2 N x0_2 n_2 (x1_2 + 1)) else (some x1_2))
def f_X4_lowest (N : Nat) (x0 : Int32) : Option (Int32) :=
    Option.bind (f_X4_lowest_L2 N x0 N 0) (fun q4 => if q4 = 12 then (some (-4)) else (some q4))
set_option maxHeartbeats 4000000 in
set_option maxRecDepth 100000 in
theorem c_X4_lowest (l : Launch) (D : va_G) (cI cC cH : ClassId) (N : Nat) (x0 : Int32) (y : Int32) (h : f_X4_lowest N x0 = some y) : CTi l yX4_lowest cX4_lowest 2 (some .int) 0 0 D (tyL cI cC cH) [.int x0] [] [] y := by
  unfold f_X4_lowest at h
  refine ctI (by decide) (Nat.le_of_ble_eq_true rfl) ?_
  intro p e s m args below meth c A Q ls F hret hP hD hS hl
  have hx := F.1
  have hb := F.2.1
  have hown : s.vm.findClass RX4 = some m.cls := F.2.2.2.1
  have hts := F.2.2.2.2.1
  have hN := F.2.2.2.2.2.1
  have hK := F.2.2.2.2.2.2.1
  have hl : lv_has ls 2 [(0, .int x0)] := hl
  refine lv_iconst (v := 0) hx hb dX4_lowest_0 (by decide) ?_
  refine lv_istore_n (lv' := [(1, .int 0), (0, .int x0)]) hx hb dX4_lowest_1 rfl hl (by decide) rfl (fun ls hl => ?_)
  have L_2 : ∀ (x0_2 : Int32), ∀ (n_2 : Nat) (x1_2 : Int32) (q3 : (Int32)), f_X4_lowest_L2 N x0_2 n_2 x1_2 = some q3 → (∀ (ls : Array Slot) (H : Heap) (locs : List Loc), lv_has ls 2 [(1, .int q3)] → va_P D vwCl [] H → va_D A [] → va_S A s.heap H locs → W p l e (rmm 0 0) s m args below meth c H locs 0 0 Q (F0 m 22 ls [])) → ∀ (ls : Array Slot) (H : Heap) (locs : List Loc), lv_has ls 2 [(0, .int x0_2), (1, .int x1_2)] → va_P D vwCl [] H → va_D A [] → va_S A s.heap H locs → W p l e (rmm 0 0) s m args below meth c H locs 0 0 Q (F0 m 2 ls []) := by
    intro x0_2 n_2
    induction n_2 with
    | zero => intro x1_2 q3 h; exact no_s h
    | succ n_2 ih_2 =>
      intro x1_2 q3 h J_2 ls H locs hl hP hD hS
      rw [f_X4_lowest_L2] at h
      refine lv_iload_n hx hb dX4_lowest_2 rfl (lv_at hl 1 rfl) ?_
      refine lv_bipush (v := 12) hx hb dX4_lowest_3 (by decide) ?_
      refine lv_icmp_ge (tgt := 22) hx hb dX4_lowest_5 (by decide) (fun c1 => ?_) (fun c1 => ?_)
      · have h := itT h c1
        obtain rfl := Option.some.inj h
        exact J_2 _ _ _ (lv_sub hl [1] rfl) hP hD hS
      · have h := itF h c1
        refine lv_iload_n hx hb dX4_lowest_8 rfl (lv_at hl 0 rfl) ?_
        refine lv_iload_n hx hb dX4_lowest_9 rfl (lv_at hl 1 rfl) ?_
        refine lv_ishr hx hb dX4_lowest_10 ?_
        refine lv_iconst (v := 1) hx hb dX4_lowest_11 (by decide) ?_
        refine lv_iand hx hb dX4_lowest_12 ?_
        refine lv_if_ne (tgt := 22) hx hb dX4_lowest_13 (by decide) (fun c2 => ?_) (fun c2 => ?_)
        · have h := itF h c2
          obtain rfl := Option.some.inj h
          exact J_2 _ _ _ (lv_sub hl [1] rfl) hP hD hS
        · have h := itT h c2
          refine lv_iinc (v := x1_2 + 1) (lv' := [(1, .int (x1_2 + 1)), (0, .int x0_2)]) hx hb dX4_lowest_16 hl (k := 1) rfl rfl (by decide) rfl (fun ls hl => ?_)
          refine lv_goto (tgt := 2) hx hb dX4_lowest_19 (by decide) ?_
          exact ih_2 (x1_2 + 1) _ h J_2 _ _ _ (lv_sub hl [1, 0] rfl) hP hD hS
  obtain ⟨q4, hb6, h⟩ := bd h
  refine L_2 x0 N 0 q4 hb6 ?_ _ _ _ (lv_sub hl [1, 0] rfl) hP hD hS
  intro ls H locs hl hP hD hS
  refine lv_iload_n hx hb dX4_lowest_22 rfl (lv_at hl 0 rfl) ?_
  refine lv_bipush (v := 12) hx hb dX4_lowest_23 (by decide) ?_
  refine lv_icmp_ne (tgt := 33) hx hb dX4_lowest_25 (by decide) (fun c5 => ?_) (fun c5 => ?_)
  · have h := itF h c5
    refine lv_iload_n hx hb dX4_lowest_33 rfl (lv_at hl 0 rfl) ?_
    obtain rfl := Option.some.inj h
    exact hret _ _ _ _ _ rfl hP hD hS dX4_lowest_34
  · have h := itT h c5
    refine lv_bipush (v := (-4)) hx hb dX4_lowest_28 (by decide) ?_
    refine lv_goto (tgt := 34) hx hb dX4_lowest_30 (by decide) ?_
    obtain rfl := Option.some.inj h
    exact hret _ _ _ _ _ rfl hP hD hS dX4_lowest_34
def f_X4_add (N : Nat) (x1 : Int32) (x2 : Int32) (zs : Nat → Int32) (zpast : Nat → Int32) (zpasts : Int32) : Option (Int32 × (Nat → Int32) × (Nat → Int32) × Int32) :=
    Option.bind (f_X4_in N x1 0 1) (fun q1 => if q1 = 0 then (some ((-1), zs, zpast, zpasts)) else (Option.bind (f_X4_in N x2 0 5) (fun q4 => if q4 = 0 then (some ((-1), zs, zpast, zpasts)) else (chk (gi 0 37) (if (zs (Int32.toNatClampNeg 0)) = 12 then (some ((-3), zs, zpast, zpasts)) else (Option.bind (f_X4_changes N zs zpast zpasts) (fun q9 => chk (gi (1 + (zs (Int32.toNatClampNeg 0))) 37) (chk (gi (13 + (zs (Int32.toNatClampNeg 0))) 37) (chk (gi (25 + (zs (Int32.toNatClampNeg 0))) 37) (chk (gi 0 37) (chk (gi 0 37) (some (zs (Int32.toNatClampNeg 0), upd (upd (upd (upd zs (Int32.toNatClampNeg (1 + (zs (Int32.toNatClampNeg 0)))) x1) (Int32.toNatClampNeg (13 + (zs (Int32.toNatClampNeg 0)))) x2) (Int32.toNatClampNeg (25 + (zs (Int32.toNatClampNeg 0)))) 0) (Int32.toNatClampNeg 0) (((upd (upd (upd zs (Int32.toNatClampNeg (1 + (zs (Int32.toNatClampNeg 0)))) x1) (Int32.toNatClampNeg (13 + (zs (Int32.toNatClampNeg 0)))) x2) (Int32.toNatClampNeg (25 + (zs (Int32.toNatClampNeg 0)))) 0) (Int32.toNatClampNeg 0)) + 1), q9.1, q9.2)))))))))))))
set_option maxHeartbeats 4000000 in
set_option maxRecDepth 100000 in
theorem c_X4_add (l : Launch) (D : va_G) (cI cC cH : ClassId) (a0 : Nat) (a_s : Nat) (a_past : Nat) (a_kept : Nat) (a_text : Nat) (a_measure : Nat) (a_chosen : Nat) (a_ways : Nat) (a_owners : Nat) (a_ranks : Nat) (a_sets : Nat) (a_toldAt : Nat) (a_line : Nat) (N : Nat) (x1 : Int32) (x2 : Int32) (zs : Nat → Int32) (zpast : Nat → Int32) (zisKept : Int32) (zpasts : Int32) (ztyped : Int32) (zmost1 : Int32) (zmost3 : Int32) (zmost5 : Int32) (zspot : Int32) (zreason : Int32) (zplaces : Int32) (y : Int32 × (Nat → Int32) × (Nat → Int32) × Int32) (h : f_X4_add N x1 x2 zs zpast zpasts = some y) : CTi l yX4_add cX4_add 4 (some .int) 1 22 D (tyL cI cC cH) [.ref a0, .int x1, .int x2] [(a0, .inr (3, [.ref a_s, .ref a_past, .ref a_kept, .int zisKept, .int zpasts, .ref a_text, .int ztyped, .ref a_measure, .int zmost1, .int zmost3, .int zmost5, .ref a_chosen, .ref a_ways, .int zspot, .int zreason, .int zplaces, .ref a_owners, .ref a_ranks, .ref a_sets, .ref a_toldAt, .ref a_line])), (a_s, .inl (cI, 37, .inl zs)), (a_past, .inl (cI, 148, .inl zpast))] [(a0, .inr (3, [.ref a_s, .ref a_past, .ref a_kept, .int zisKept, .int y.2.2.2, .ref a_text, .int ztyped, .ref a_measure, .int zmost1, .int zmost3, .int zmost5, .ref a_chosen, .ref a_ways, .int zspot, .int zreason, .int zplaces, .ref a_owners, .ref a_ranks, .ref a_sets, .ref a_toldAt, .ref a_line])), (a_s, .inl (cI, 37, .inl y.2.1)), (a_past, .inl (cI, 148, .inl y.2.2.1))] y.1 := by
  unfold f_X4_add at h
  refine ctI (by decide) (Nat.le_of_ble_eq_true rfl) ?_
  intro p e s m args below meth c A Q ls F hret hP hD hS hl
  have hx := F.1
  have hb := F.2.1
  have hown : s.vm.findClass RX4 = some m.cls := F.2.2.2.1
  have hts := F.2.2.2.2.1
  have hN := F.2.2.2.2.2.1
  have hK := F.2.2.2.2.2.2.1
  have hl : lv_has ls 4 [(0, .ref a0), (1, .int x1), (2, .int x2)] := hl
  refine lv_iload_n hx hb dX4_add_0 rfl (lv_at hl 1 rfl) ?_
  refine lv_iconst (v := 0) hx hb dX4_add_1 (by decide) ?_
  refine lv_iconst (v := 1) hx hb dX4_add_2 (by decide) ?_
  obtain ⟨q1, hq2, h⟩ := bd h
  refine ks0 (As := [.int x1, .int 0, .int 1]) F (c_X4_in l D cI cC cH  N x1 0 1 q1 hq2) yfX4_in ⟨wd2_220, wd2_221⟩ hP hD hS ⟨Nat.le_of_ble_eq_true rfl, Nat.le_of_ble_eq_true rfl, Nat.zero_le _, Nat.zero_le _⟩ rfl hl rfl (Nat.le_of_ble_eq_true rfl) dX4_add_3 (fun H locs hP hD hS => ?_)
  refine lv_if_eq (tgt := 18) hx hb dX4_add_6 (by decide) (fun c3 => ?_) (fun c3 => ?_)
  · have h := itT h c3
    refine lv_iconst (v := (-1)) hx hb dX4_add_18 (by decide) ?_
    obtain rfl := Option.some.inj h
    exact hret _ _ _ _ _ rfl hP hD hS dX4_add_19
  · have h := itF h c3
    refine lv_iload_n hx hb dX4_add_9 rfl (lv_at hl 2 rfl) ?_
    refine lv_iconst (v := 0) hx hb dX4_add_10 (by decide) ?_
    refine lv_iconst (v := 5) hx hb dX4_add_11 (by decide) ?_
    obtain ⟨q4, hq5, h⟩ := bd h
    refine ks0 (As := [.int x2, .int 0, .int 5]) F (c_X4_in l D cI cC cH  N x2 0 5 q4 hq5) yfX4_in ⟨wd2_220, wd2_221⟩ hP hD hS ⟨Nat.le_of_ble_eq_true rfl, Nat.le_of_ble_eq_true rfl, Nat.zero_le _, Nat.zero_le _⟩ rfl hl rfl (Nat.le_of_ble_eq_true rfl) dX4_add_12 (fun H locs hP hD hS => ?_)
    refine lv_if_ne (tgt := 20) hx hb dX4_add_15 (by decide) (fun c6 => ?_) (fun c6 => ?_)
    · have h := itF h c6
      refine lv_aload_n hx hb dX4_add_20 rfl (lv_at hl 0 rfl) ?_
      refine va_get (D := D) (ci := 3) (v := .ref a_s) (C := RX4) (T := TX4) (N := 21) hx hb hts inG4 hown hK hP 0 rfl rfl 0 (by decide) (hts _ wd2_152) (fun _ h9 => h9) rfl dX4_add_21 ?_
      refine lv_iconst (v := 0) hx hb dX4_add_24 (by decide) ?_
      obtain ⟨g7, h⟩ := chk_s h
      refine va_iald hx hb hK hP 1 0 rfl rfl (gi_in g7) dX4_add_25 ?_
      refine lv_istore_n (lv' := [(3, .int (zs (Int32.toNatClampNeg 0))), (0, .ref a0), (1, .int x1), (2, .int x2)]) hx hb dX4_add_26 rfl hl (by decide) rfl (fun ls hl => ?_)
      refine lv_iload_n hx hb dX4_add_27 rfl (lv_at hl 0 rfl) ?_
      refine lv_bipush (v := 12) hx hb dX4_add_28 (by decide) ?_
      refine lv_icmp_ne (tgt := 36) hx hb dX4_add_30 (by decide) (fun c8 => ?_) (fun c8 => ?_)
      · have h := itF h c8
        refine lv_aload_n hx hb dX4_add_36 rfl (lv_at hl 1 rfl) ?_
        obtain ⟨q9, hq10, h⟩ := bd h
        refine kvV (ws' := [(a0, .inr (3, [.ref a_s, .ref a_past, .ref a_kept, .int zisKept, .int q9.2, .ref a_text, .int ztyped, .ref a_measure, .int zmost1, .int zmost3, .int zmost5, .ref a_chosen, .ref a_ways, .int zspot, .int zreason, .int zplaces, .ref a_owners, .ref a_ranks, .ref a_sets, .ref a_toldAt, .ref a_line])), (a_s, .inl (cI, 37, .inl zs)), (a_past, .inl (cI, 148, .inl q9.1))]) (wr := []) (As := []) F (c_X4_changes l D cI cC cH a0 a_s a_past a_kept a_text a_measure a_chosen a_ways a_owners a_ranks a_sets a_toldAt a_line N zs zpast zisKept zpasts ztyped zmost1 zmost3 zmost5 zspot zreason zplaces q9 hq10) yfX4_changes ⟨wd2_223, wd2_225, wdp_19⟩ hP hD hS [0, 1, 2] [] [0, 1, 2] rfl rfl (by decide) (by decide) (by decide) rfl (by decide) 0 3 rfl rfl rfl ⟨Nat.le_of_ble_eq_true rfl, Nat.le_of_ble_eq_true rfl, Nat.zero_le _, Nat.zero_le _⟩ rfl hl rfl (Nat.le_of_ble_eq_true rfl) dX4_add_37 (fun H locs hP hD hS => ?_)
        refine lv_aload_n hx hb dX4_add_40 rfl (lv_at hl 1 rfl) ?_
        refine va_get (D := D) (ci := 3) (v := .ref a_s) (C := RX4) (T := TX4) (N := 21) hx hb hts inG4 hown hK hP 0 rfl rfl 0 (by decide) (hts _ wd2_152) (fun _ h9 => h9) rfl dX4_add_41 ?_
        refine lv_iconst (v := 1) hx hb dX4_add_44 (by decide) ?_
        refine lv_iload_n hx hb dX4_add_45 rfl (lv_at hl 0 rfl) ?_
        refine lv_iadd hx hb dX4_add_46 ?_
        refine lv_iload_n hx hb dX4_add_47 rfl (lv_at hl 2 rfl) ?_
        obtain ⟨g11, h⟩ := chk_s h
        refine va_iast hx hb hK hP hD hS 1 0 rfl rfl (gi_in g11) dX4_add_48 (fun H locs hP hD hS => ?_)
        have hP : va_P D vwCl [(a0, .inr (3, [.ref a_s, .ref a_past, .ref a_kept, .int zisKept, .int q9.2, .ref a_text, .int ztyped, .ref a_measure, .int zmost1, .int zmost3, .int zmost5, .ref a_chosen, .ref a_ways, .int zspot, .int zreason, .int zplaces, .ref a_owners, .ref a_ranks, .ref a_sets, .ref a_toldAt, .ref a_line])), (a_s, .inl (cI, 37, .inl (upd zs (Int32.toNatClampNeg (1 + (zs (Int32.toNatClampNeg 0)))) x1))), (a_past, .inl (cI, 148, .inl q9.1))] H := hP
        have hD : va_D A [(a0, .inr (3, [.ref a_s, .ref a_past, .ref a_kept, .int zisKept, .int q9.2, .ref a_text, .int ztyped, .ref a_measure, .int zmost1, .int zmost3, .int zmost5, .ref a_chosen, .ref a_ways, .int zspot, .int zreason, .int zplaces, .ref a_owners, .ref a_ranks, .ref a_sets, .ref a_toldAt, .ref a_line])), (a_s, .inl (cI, 37, .inl (upd zs (Int32.toNatClampNeg (1 + (zs (Int32.toNatClampNeg 0)))) x1))), (a_past, .inl (cI, 148, .inl q9.1))] := hD
        refine lv_aload_n hx hb dX4_add_49 rfl (lv_at hl 1 rfl) ?_
        refine va_get (D := D) (ci := 3) (v := .ref a_s) (C := RX4) (T := TX4) (N := 21) hx hb hts inG4 hown hK hP 0 rfl rfl 0 (by decide) (hts _ wd2_152) (fun _ h9 => h9) rfl dX4_add_50 ?_
        refine lv_bipush (v := 13) hx hb dX4_add_53 (by decide) ?_
        refine lv_iload_n hx hb dX4_add_55 rfl (lv_at hl 0 rfl) ?_
        refine lv_iadd hx hb dX4_add_56 ?_
        refine lv_iload_n hx hb dX4_add_57 rfl (lv_at hl 3 rfl) ?_
        obtain ⟨g12, h⟩ := chk_s h
        refine va_iast hx hb hK hP hD hS 1 0 rfl rfl (gi_in g12) dX4_add_58 (fun H locs hP hD hS => ?_)
        have hP : va_P D vwCl [(a0, .inr (3, [.ref a_s, .ref a_past, .ref a_kept, .int zisKept, .int q9.2, .ref a_text, .int ztyped, .ref a_measure, .int zmost1, .int zmost3, .int zmost5, .ref a_chosen, .ref a_ways, .int zspot, .int zreason, .int zplaces, .ref a_owners, .ref a_ranks, .ref a_sets, .ref a_toldAt, .ref a_line])), (a_s, .inl (cI, 37, .inl (upd (upd zs (Int32.toNatClampNeg (1 + (zs (Int32.toNatClampNeg 0)))) x1) (Int32.toNatClampNeg (13 + (zs (Int32.toNatClampNeg 0)))) x2))), (a_past, .inl (cI, 148, .inl q9.1))] H := hP
        have hD : va_D A [(a0, .inr (3, [.ref a_s, .ref a_past, .ref a_kept, .int zisKept, .int q9.2, .ref a_text, .int ztyped, .ref a_measure, .int zmost1, .int zmost3, .int zmost5, .ref a_chosen, .ref a_ways, .int zspot, .int zreason, .int zplaces, .ref a_owners, .ref a_ranks, .ref a_sets, .ref a_toldAt, .ref a_line])), (a_s, .inl (cI, 37, .inl (upd (upd zs (Int32.toNatClampNeg (1 + (zs (Int32.toNatClampNeg 0)))) x1) (Int32.toNatClampNeg (13 + (zs (Int32.toNatClampNeg 0)))) x2))), (a_past, .inl (cI, 148, .inl q9.1))] := hD
        refine lv_aload_n hx hb dX4_add_59 rfl (lv_at hl 1 rfl) ?_
        refine va_get (D := D) (ci := 3) (v := .ref a_s) (C := RX4) (T := TX4) (N := 21) hx hb hts inG4 hown hK hP 0 rfl rfl 0 (by decide) (hts _ wd2_152) (fun _ h9 => h9) rfl dX4_add_60 ?_
        refine lv_bipush (v := 25) hx hb dX4_add_63 (by decide) ?_
        refine lv_iload_n hx hb dX4_add_65 rfl (lv_at hl 0 rfl) ?_
        refine lv_iadd hx hb dX4_add_66 ?_
        refine lv_iconst (v := 0) hx hb dX4_add_67 (by decide) ?_
        obtain ⟨g13, h⟩ := chk_s h
        refine va_iast hx hb hK hP hD hS 1 0 rfl rfl (gi_in g13) dX4_add_68 (fun H locs hP hD hS => ?_)
        have hP : va_P D vwCl [(a0, .inr (3, [.ref a_s, .ref a_past, .ref a_kept, .int zisKept, .int q9.2, .ref a_text, .int ztyped, .ref a_measure, .int zmost1, .int zmost3, .int zmost5, .ref a_chosen, .ref a_ways, .int zspot, .int zreason, .int zplaces, .ref a_owners, .ref a_ranks, .ref a_sets, .ref a_toldAt, .ref a_line])), (a_s, .inl (cI, 37, .inl (upd (upd (upd zs (Int32.toNatClampNeg (1 + (zs (Int32.toNatClampNeg 0)))) x1) (Int32.toNatClampNeg (13 + (zs (Int32.toNatClampNeg 0)))) x2) (Int32.toNatClampNeg (25 + (zs (Int32.toNatClampNeg 0)))) 0))), (a_past, .inl (cI, 148, .inl q9.1))] H := hP
        have hD : va_D A [(a0, .inr (3, [.ref a_s, .ref a_past, .ref a_kept, .int zisKept, .int q9.2, .ref a_text, .int ztyped, .ref a_measure, .int zmost1, .int zmost3, .int zmost5, .ref a_chosen, .ref a_ways, .int zspot, .int zreason, .int zplaces, .ref a_owners, .ref a_ranks, .ref a_sets, .ref a_toldAt, .ref a_line])), (a_s, .inl (cI, 37, .inl (upd (upd (upd zs (Int32.toNatClampNeg (1 + (zs (Int32.toNatClampNeg 0)))) x1) (Int32.toNatClampNeg (13 + (zs (Int32.toNatClampNeg 0)))) x2) (Int32.toNatClampNeg (25 + (zs (Int32.toNatClampNeg 0)))) 0))), (a_past, .inl (cI, 148, .inl q9.1))] := hD
        refine lv_aload_n hx hb dX4_add_69 rfl (lv_at hl 1 rfl) ?_
        refine va_get (D := D) (ci := 3) (v := .ref a_s) (C := RX4) (T := TX4) (N := 21) hx hb hts inG4 hown hK hP 0 rfl rfl 0 (by decide) (hts _ wd2_152) (fun _ h9 => h9) rfl dX4_add_70 ?_
        refine lv_iconst (v := 0) hx hb dX4_add_73 (by decide) ?_
        refine lv_dup2_11 hx hb dX4_add_74 rfl rfl ?_
        obtain ⟨g14, h⟩ := chk_s h
        refine va_iald hx hb hK hP 1 0 rfl rfl (gi_in g14) dX4_add_75 ?_
        refine lv_iconst (v := 1) hx hb dX4_add_76 (by decide) ?_
        refine lv_iadd hx hb dX4_add_77 ?_
        obtain ⟨g15, h⟩ := chk_s h
        refine va_iast hx hb hK hP hD hS 1 0 rfl rfl (gi_in g15) dX4_add_78 (fun H locs hP hD hS => ?_)
        have hP : va_P D vwCl [(a0, .inr (3, [.ref a_s, .ref a_past, .ref a_kept, .int zisKept, .int q9.2, .ref a_text, .int ztyped, .ref a_measure, .int zmost1, .int zmost3, .int zmost5, .ref a_chosen, .ref a_ways, .int zspot, .int zreason, .int zplaces, .ref a_owners, .ref a_ranks, .ref a_sets, .ref a_toldAt, .ref a_line])), (a_s, .inl (cI, 37, .inl (upd (upd (upd (upd zs (Int32.toNatClampNeg (1 + (zs (Int32.toNatClampNeg 0)))) x1) (Int32.toNatClampNeg (13 + (zs (Int32.toNatClampNeg 0)))) x2) (Int32.toNatClampNeg (25 + (zs (Int32.toNatClampNeg 0)))) 0) (Int32.toNatClampNeg 0) (((upd (upd (upd zs (Int32.toNatClampNeg (1 + (zs (Int32.toNatClampNeg 0)))) x1) (Int32.toNatClampNeg (13 + (zs (Int32.toNatClampNeg 0)))) x2) (Int32.toNatClampNeg (25 + (zs (Int32.toNatClampNeg 0)))) 0) (Int32.toNatClampNeg 0)) + 1)))), (a_past, .inl (cI, 148, .inl q9.1))] H := hP
        have hD : va_D A [(a0, .inr (3, [.ref a_s, .ref a_past, .ref a_kept, .int zisKept, .int q9.2, .ref a_text, .int ztyped, .ref a_measure, .int zmost1, .int zmost3, .int zmost5, .ref a_chosen, .ref a_ways, .int zspot, .int zreason, .int zplaces, .ref a_owners, .ref a_ranks, .ref a_sets, .ref a_toldAt, .ref a_line])), (a_s, .inl (cI, 37, .inl (upd (upd (upd (upd zs (Int32.toNatClampNeg (1 + (zs (Int32.toNatClampNeg 0)))) x1) (Int32.toNatClampNeg (13 + (zs (Int32.toNatClampNeg 0)))) x2) (Int32.toNatClampNeg (25 + (zs (Int32.toNatClampNeg 0)))) 0) (Int32.toNatClampNeg 0) (((upd (upd (upd zs (Int32.toNatClampNeg (1 + (zs (Int32.toNatClampNeg 0)))) x1) (Int32.toNatClampNeg (13 + (zs (Int32.toNatClampNeg 0)))) x2) (Int32.toNatClampNeg (25 + (zs (Int32.toNatClampNeg 0)))) 0) (Int32.toNatClampNeg 0)) + 1)))), (a_past, .inl (cI, 148, .inl q9.1))] := hD
        refine lv_iload_n hx hb dX4_add_79 rfl (lv_at hl 0 rfl) ?_
        obtain rfl := Option.some.inj h
        exact hret _ _ _ _ _ rfl hP hD hS dX4_add_80
      · have h := itT h c8
        refine lv_bipush (v := (-3)) hx hb dX4_add_33 (by decide) ?_
        obtain rfl := Option.some.inj h
        exact hret _ _ _ _ _ rfl hP hD hS dX4_add_35
    · have h := itT h c6
      refine lv_iconst (v := (-1)) hx hb dX4_add_18 (by decide) ?_
      obtain rfl := Option.some.inj h
      exact hret _ _ _ _ _ rfl hP hD hS dX4_add_19
def f_X4_own (N : Nat) (x1 : Int32) (x2 : Int32) (zs : Nat → Int32) (zpast : Nat → Int32) (zpasts : Int32) : Option (Int32 × (Nat → Int32) × (Nat → Int32) × Int32) :=
    Option.bind (f_X4_isPlace N x1 zs) (fun q1 => if q1 = 0 then (some ((-1), zs, zpast, zpasts)) else (Option.bind (f_X4_in N x2 0 1) (fun q4 => if q4 = 0 then (some ((-1), zs, zpast, zpasts)) else (Option.bind (f_X4_changes N zs zpast zpasts) (fun q7 => chk (gi (1 + x1) 37) (chk (gi (1 + x1) 37) (some (zs (Int32.toNatClampNeg (1 + x1)), upd zs (Int32.toNatClampNeg (1 + x1)) x2, q7.1, q7.2))))))))
set_option maxHeartbeats 4000000 in
set_option maxRecDepth 100000 in
theorem c_X4_own (l : Launch) (D : va_G) (cI cC cH : ClassId) (a0 : Nat) (a_s : Nat) (a_past : Nat) (a_kept : Nat) (a_text : Nat) (a_measure : Nat) (a_chosen : Nat) (a_ways : Nat) (a_owners : Nat) (a_ranks : Nat) (a_sets : Nat) (a_toldAt : Nat) (a_line : Nat) (N : Nat) (x1 : Int32) (x2 : Int32) (zs : Nat → Int32) (zpast : Nat → Int32) (zisKept : Int32) (zpasts : Int32) (ztyped : Int32) (zmost1 : Int32) (zmost3 : Int32) (zmost5 : Int32) (zspot : Int32) (zreason : Int32) (zplaces : Int32) (y : Int32 × (Nat → Int32) × (Nat → Int32) × Int32) (h : f_X4_own N x1 x2 zs zpast zpasts = some y) : CTi l yX4_own cX4_own 4 (some .int) 1 22 D (tyL cI cC cH) [.ref a0, .int x1, .int x2] [(a0, .inr (3, [.ref a_s, .ref a_past, .ref a_kept, .int zisKept, .int zpasts, .ref a_text, .int ztyped, .ref a_measure, .int zmost1, .int zmost3, .int zmost5, .ref a_chosen, .ref a_ways, .int zspot, .int zreason, .int zplaces, .ref a_owners, .ref a_ranks, .ref a_sets, .ref a_toldAt, .ref a_line])), (a_s, .inl (cI, 37, .inl zs)), (a_past, .inl (cI, 148, .inl zpast))] [(a0, .inr (3, [.ref a_s, .ref a_past, .ref a_kept, .int zisKept, .int y.2.2.2, .ref a_text, .int ztyped, .ref a_measure, .int zmost1, .int zmost3, .int zmost5, .ref a_chosen, .ref a_ways, .int zspot, .int zreason, .int zplaces, .ref a_owners, .ref a_ranks, .ref a_sets, .ref a_toldAt, .ref a_line])), (a_s, .inl (cI, 37, .inl y.2.1)), (a_past, .inl (cI, 148, .inl y.2.2.1))] y.1 := by
  unfold f_X4_own at h
  refine ctI (by decide) (Nat.le_of_ble_eq_true rfl) ?_
  intro p e s m args below meth c A Q ls F hret hP hD hS hl
  have hx := F.1
  have hb := F.2.1
  have hown : s.vm.findClass RX4 = some m.cls := F.2.2.2.1
  have hts := F.2.2.2.2.1
  have hN := F.2.2.2.2.2.1
  have hK := F.2.2.2.2.2.2.1
  have hl : lv_has ls 4 [(0, .ref a0), (1, .int x1), (2, .int x2)] := hl
  refine lv_aload_n hx hb dX4_own_0 rfl (lv_at hl 0 rfl) ?_
  refine lv_iload_n hx hb dX4_own_1 rfl (lv_at hl 1 rfl) ?_
  obtain ⟨q1, hq2, h⟩ := bd h
  refine kvI (ws' := [(a0, .inr (3, [.ref a_s, .ref a_past, .ref a_kept, .int zisKept, .int zpasts, .ref a_text, .int ztyped, .ref a_measure, .int zmost1, .int zmost3, .int zmost5, .ref a_chosen, .ref a_ways, .int zspot, .int zreason, .int zplaces, .ref a_owners, .ref a_ranks, .ref a_sets, .ref a_toldAt, .ref a_line])), (a_s, .inl (cI, 37, .inl zs)), (a_past, .inl (cI, 148, .inl zpast))]) (wr := [(a_past, .inl (cI, 148, .inl zpast))]) (As := [.int x1]) F (c_X4_isPlace l D cI cC cH a0 a_s a_past a_kept a_text a_measure a_chosen a_ways a_owners a_ranks a_sets a_toldAt a_line N x1 zs zisKept zpasts ztyped zmost1 zmost3 zmost5 zspot zreason zplaces q1 hq2) yfX4_isPlace ⟨wd2_231, wd2_233, wdp_20⟩ hP hD hS [0, 1] [2] [1, 2, 0] rfl rfl (by decide) (by decide) (by decide) rfl (by decide) 0 3 rfl rfl rfl ⟨Nat.le_of_ble_eq_true rfl, Nat.le_of_ble_eq_true rfl, Nat.zero_le _, Nat.zero_le _⟩ rfl hl rfl (Nat.le_of_ble_eq_true rfl) dX4_own_2 (fun H locs hP hD hS => ?_)
  refine lv_if_eq (tgt := 17) hx hb dX4_own_5 (by decide) (fun c3 => ?_) (fun c3 => ?_)
  · have h := itT h c3
    refine lv_iconst (v := (-1)) hx hb dX4_own_17 (by decide) ?_
    obtain rfl := Option.some.inj h
    exact hret _ _ _ _ _ rfl hP hD hS dX4_own_18
  · have h := itF h c3
    refine lv_iload_n hx hb dX4_own_8 rfl (lv_at hl 2 rfl) ?_
    refine lv_iconst (v := 0) hx hb dX4_own_9 (by decide) ?_
    refine lv_iconst (v := 1) hx hb dX4_own_10 (by decide) ?_
    obtain ⟨q4, hq5, h⟩ := bd h
    refine ks0 (As := [.int x2, .int 0, .int 1]) F (c_X4_in l D cI cC cH  N x2 0 1 q4 hq5) yfX4_in ⟨wd2_220, wd2_221⟩ hP hD hS ⟨Nat.le_of_ble_eq_true rfl, Nat.le_of_ble_eq_true rfl, Nat.zero_le _, Nat.zero_le _⟩ rfl hl rfl (Nat.le_of_ble_eq_true rfl) dX4_own_11 (fun H locs hP hD hS => ?_)
    refine lv_if_ne (tgt := 19) hx hb dX4_own_14 (by decide) (fun c6 => ?_) (fun c6 => ?_)
    · have h := itF h c6
      refine lv_aload_n hx hb dX4_own_19 rfl (lv_at hl 0 rfl) ?_
      obtain ⟨q7, hq8, h⟩ := bd h
      refine kvV (ws' := [(a0, .inr (3, [.ref a_s, .ref a_past, .ref a_kept, .int zisKept, .int q7.2, .ref a_text, .int ztyped, .ref a_measure, .int zmost1, .int zmost3, .int zmost5, .ref a_chosen, .ref a_ways, .int zspot, .int zreason, .int zplaces, .ref a_owners, .ref a_ranks, .ref a_sets, .ref a_toldAt, .ref a_line])), (a_s, .inl (cI, 37, .inl zs)), (a_past, .inl (cI, 148, .inl q7.1))]) (wr := []) (As := []) F (c_X4_changes l D cI cC cH a0 a_s a_past a_kept a_text a_measure a_chosen a_ways a_owners a_ranks a_sets a_toldAt a_line N zs zpast zisKept zpasts ztyped zmost1 zmost3 zmost5 zspot zreason zplaces q7 hq8) yfX4_changes ⟨wd2_223, wd2_225, wdp_19⟩ hP hD hS [0, 1, 2] [] [0, 1, 2] rfl rfl (by decide) (by decide) (by decide) rfl (by decide) 0 3 rfl rfl rfl ⟨Nat.le_of_ble_eq_true rfl, Nat.le_of_ble_eq_true rfl, Nat.zero_le _, Nat.zero_le _⟩ rfl hl rfl (Nat.le_of_ble_eq_true rfl) dX4_own_20 (fun H locs hP hD hS => ?_)
      refine lv_aload_n hx hb dX4_own_23 rfl (lv_at hl 0 rfl) ?_
      refine va_get (D := D) (ci := 3) (v := .ref a_s) (C := RX4) (T := TX4) (N := 21) hx hb hts inG4 hown hK hP 0 rfl rfl 0 (by decide) (hts _ wd2_152) (fun _ h9 => h9) rfl dX4_own_24 ?_
      refine lv_iconst (v := 1) hx hb dX4_own_27 (by decide) ?_
      refine lv_iload_n hx hb dX4_own_28 rfl (lv_at hl 1 rfl) ?_
      refine lv_iadd hx hb dX4_own_29 ?_
      obtain ⟨g9, h⟩ := chk_s h
      refine va_iald hx hb hK hP 1 0 rfl rfl (gi_in g9) dX4_own_30 ?_
      refine lv_istore_n (lv' := [(3, .int (zs (Int32.toNatClampNeg (1 + x1)))), (0, .ref a0), (1, .int x1), (2, .int x2)]) hx hb dX4_own_31 rfl hl (by decide) rfl (fun ls hl => ?_)
      refine lv_aload_n hx hb dX4_own_32 rfl (lv_at hl 1 rfl) ?_
      refine va_get (D := D) (ci := 3) (v := .ref a_s) (C := RX4) (T := TX4) (N := 21) hx hb hts inG4 hown hK hP 0 rfl rfl 0 (by decide) (hts _ wd2_152) (fun _ h9 => h9) rfl dX4_own_33 ?_
      refine lv_iconst (v := 1) hx hb dX4_own_36 (by decide) ?_
      refine lv_iload_n hx hb dX4_own_37 rfl (lv_at hl 2 rfl) ?_
      refine lv_iadd hx hb dX4_own_38 ?_
      refine lv_iload_n hx hb dX4_own_39 rfl (lv_at hl 3 rfl) ?_
      obtain ⟨g10, h⟩ := chk_s h
      refine va_iast hx hb hK hP hD hS 1 0 rfl rfl (gi_in g10) dX4_own_40 (fun H locs hP hD hS => ?_)
      have hP : va_P D vwCl [(a0, .inr (3, [.ref a_s, .ref a_past, .ref a_kept, .int zisKept, .int q7.2, .ref a_text, .int ztyped, .ref a_measure, .int zmost1, .int zmost3, .int zmost5, .ref a_chosen, .ref a_ways, .int zspot, .int zreason, .int zplaces, .ref a_owners, .ref a_ranks, .ref a_sets, .ref a_toldAt, .ref a_line])), (a_s, .inl (cI, 37, .inl (upd zs (Int32.toNatClampNeg (1 + x1)) x2))), (a_past, .inl (cI, 148, .inl q7.1))] H := hP
      have hD : va_D A [(a0, .inr (3, [.ref a_s, .ref a_past, .ref a_kept, .int zisKept, .int q7.2, .ref a_text, .int ztyped, .ref a_measure, .int zmost1, .int zmost3, .int zmost5, .ref a_chosen, .ref a_ways, .int zspot, .int zreason, .int zplaces, .ref a_owners, .ref a_ranks, .ref a_sets, .ref a_toldAt, .ref a_line])), (a_s, .inl (cI, 37, .inl (upd zs (Int32.toNatClampNeg (1 + x1)) x2))), (a_past, .inl (cI, 148, .inl q7.1))] := hD
      refine lv_iload_n hx hb dX4_own_41 rfl (lv_at hl 0 rfl) ?_
      obtain rfl := Option.some.inj h
      exact hret _ _ _ _ _ rfl hP hD hS dX4_own_42
    · have h := itT h c6
      refine lv_iconst (v := (-1)) hx hb dX4_own_17 (by decide) ?_
      obtain rfl := Option.some.inj h
      exact hret _ _ _ _ _ rfl hP hD hS dX4_own_18
def f_X4_rank (N : Nat) (x1 : Int32) (x2 : Int32) (zs : Nat → Int32) (zpast : Nat → Int32) (zpasts : Int32) : Option (Int32 × (Nat → Int32) × (Nat → Int32) × Int32) :=
    Option.bind (f_X4_isPlace N x1 zs) (fun q1 => if q1 = 0 then (some ((-1), zs, zpast, zpasts)) else (Option.bind (f_X4_in N x2 0 5) (fun q4 => if q4 = 0 then (some ((-1), zs, zpast, zpasts)) else (Option.bind (f_X4_changes N zs zpast zpasts) (fun q7 => chk (gi (13 + x1) 37) (chk (gi (13 + x1) 37) (some (zs (Int32.toNatClampNeg (13 + x1)), upd zs (Int32.toNatClampNeg (13 + x1)) x2, q7.1, q7.2))))))))
set_option maxHeartbeats 4000000 in
set_option maxRecDepth 100000 in
theorem c_X4_rank (l : Launch) (D : va_G) (cI cC cH : ClassId) (a0 : Nat) (a_s : Nat) (a_past : Nat) (a_kept : Nat) (a_text : Nat) (a_measure : Nat) (a_chosen : Nat) (a_ways : Nat) (a_owners : Nat) (a_ranks : Nat) (a_sets : Nat) (a_toldAt : Nat) (a_line : Nat) (N : Nat) (x1 : Int32) (x2 : Int32) (zs : Nat → Int32) (zpast : Nat → Int32) (zisKept : Int32) (zpasts : Int32) (ztyped : Int32) (zmost1 : Int32) (zmost3 : Int32) (zmost5 : Int32) (zspot : Int32) (zreason : Int32) (zplaces : Int32) (y : Int32 × (Nat → Int32) × (Nat → Int32) × Int32) (h : f_X4_rank N x1 x2 zs zpast zpasts = some y) : CTi l yX4_rank cX4_rank 4 (some .int) 1 22 D (tyL cI cC cH) [.ref a0, .int x1, .int x2] [(a0, .inr (3, [.ref a_s, .ref a_past, .ref a_kept, .int zisKept, .int zpasts, .ref a_text, .int ztyped, .ref a_measure, .int zmost1, .int zmost3, .int zmost5, .ref a_chosen, .ref a_ways, .int zspot, .int zreason, .int zplaces, .ref a_owners, .ref a_ranks, .ref a_sets, .ref a_toldAt, .ref a_line])), (a_s, .inl (cI, 37, .inl zs)), (a_past, .inl (cI, 148, .inl zpast))] [(a0, .inr (3, [.ref a_s, .ref a_past, .ref a_kept, .int zisKept, .int y.2.2.2, .ref a_text, .int ztyped, .ref a_measure, .int zmost1, .int zmost3, .int zmost5, .ref a_chosen, .ref a_ways, .int zspot, .int zreason, .int zplaces, .ref a_owners, .ref a_ranks, .ref a_sets, .ref a_toldAt, .ref a_line])), (a_s, .inl (cI, 37, .inl y.2.1)), (a_past, .inl (cI, 148, .inl y.2.2.1))] y.1 := by
  unfold f_X4_rank at h
  refine ctI (by decide) (Nat.le_of_ble_eq_true rfl) ?_
  intro p e s m args below meth c A Q ls F hret hP hD hS hl
  have hx := F.1
  have hb := F.2.1
  have hown : s.vm.findClass RX4 = some m.cls := F.2.2.2.1
  have hts := F.2.2.2.2.1
  have hN := F.2.2.2.2.2.1
  have hK := F.2.2.2.2.2.2.1
  have hl : lv_has ls 4 [(0, .ref a0), (1, .int x1), (2, .int x2)] := hl
  refine lv_aload_n hx hb dX4_rank_0 rfl (lv_at hl 0 rfl) ?_
  refine lv_iload_n hx hb dX4_rank_1 rfl (lv_at hl 1 rfl) ?_
  obtain ⟨q1, hq2, h⟩ := bd h
  refine kvI (ws' := [(a0, .inr (3, [.ref a_s, .ref a_past, .ref a_kept, .int zisKept, .int zpasts, .ref a_text, .int ztyped, .ref a_measure, .int zmost1, .int zmost3, .int zmost5, .ref a_chosen, .ref a_ways, .int zspot, .int zreason, .int zplaces, .ref a_owners, .ref a_ranks, .ref a_sets, .ref a_toldAt, .ref a_line])), (a_s, .inl (cI, 37, .inl zs)), (a_past, .inl (cI, 148, .inl zpast))]) (wr := [(a_past, .inl (cI, 148, .inl zpast))]) (As := [.int x1]) F (c_X4_isPlace l D cI cC cH a0 a_s a_past a_kept a_text a_measure a_chosen a_ways a_owners a_ranks a_sets a_toldAt a_line N x1 zs zisKept zpasts ztyped zmost1 zmost3 zmost5 zspot zreason zplaces q1 hq2) yfX4_isPlace ⟨wd2_231, wd2_233, wdp_20⟩ hP hD hS [0, 1] [2] [1, 2, 0] rfl rfl (by decide) (by decide) (by decide) rfl (by decide) 0 3 rfl rfl rfl ⟨Nat.le_of_ble_eq_true rfl, Nat.le_of_ble_eq_true rfl, Nat.zero_le _, Nat.zero_le _⟩ rfl hl rfl (Nat.le_of_ble_eq_true rfl) dX4_rank_2 (fun H locs hP hD hS => ?_)
  refine lv_if_eq (tgt := 17) hx hb dX4_rank_5 (by decide) (fun c3 => ?_) (fun c3 => ?_)
  · have h := itT h c3
    refine lv_iconst (v := (-1)) hx hb dX4_rank_17 (by decide) ?_
    obtain rfl := Option.some.inj h
    exact hret _ _ _ _ _ rfl hP hD hS dX4_rank_18
  · have h := itF h c3
    refine lv_iload_n hx hb dX4_rank_8 rfl (lv_at hl 2 rfl) ?_
    refine lv_iconst (v := 0) hx hb dX4_rank_9 (by decide) ?_
    refine lv_iconst (v := 5) hx hb dX4_rank_10 (by decide) ?_
    obtain ⟨q4, hq5, h⟩ := bd h
    refine ks0 (As := [.int x2, .int 0, .int 5]) F (c_X4_in l D cI cC cH  N x2 0 5 q4 hq5) yfX4_in ⟨wd2_220, wd2_221⟩ hP hD hS ⟨Nat.le_of_ble_eq_true rfl, Nat.le_of_ble_eq_true rfl, Nat.zero_le _, Nat.zero_le _⟩ rfl hl rfl (Nat.le_of_ble_eq_true rfl) dX4_rank_11 (fun H locs hP hD hS => ?_)
    refine lv_if_ne (tgt := 19) hx hb dX4_rank_14 (by decide) (fun c6 => ?_) (fun c6 => ?_)
    · have h := itF h c6
      refine lv_aload_n hx hb dX4_rank_19 rfl (lv_at hl 0 rfl) ?_
      obtain ⟨q7, hq8, h⟩ := bd h
      refine kvV (ws' := [(a0, .inr (3, [.ref a_s, .ref a_past, .ref a_kept, .int zisKept, .int q7.2, .ref a_text, .int ztyped, .ref a_measure, .int zmost1, .int zmost3, .int zmost5, .ref a_chosen, .ref a_ways, .int zspot, .int zreason, .int zplaces, .ref a_owners, .ref a_ranks, .ref a_sets, .ref a_toldAt, .ref a_line])), (a_s, .inl (cI, 37, .inl zs)), (a_past, .inl (cI, 148, .inl q7.1))]) (wr := []) (As := []) F (c_X4_changes l D cI cC cH a0 a_s a_past a_kept a_text a_measure a_chosen a_ways a_owners a_ranks a_sets a_toldAt a_line N zs zpast zisKept zpasts ztyped zmost1 zmost3 zmost5 zspot zreason zplaces q7 hq8) yfX4_changes ⟨wd2_223, wd2_225, wdp_19⟩ hP hD hS [0, 1, 2] [] [0, 1, 2] rfl rfl (by decide) (by decide) (by decide) rfl (by decide) 0 3 rfl rfl rfl ⟨Nat.le_of_ble_eq_true rfl, Nat.le_of_ble_eq_true rfl, Nat.zero_le _, Nat.zero_le _⟩ rfl hl rfl (Nat.le_of_ble_eq_true rfl) dX4_rank_20 (fun H locs hP hD hS => ?_)
      refine lv_aload_n hx hb dX4_rank_23 rfl (lv_at hl 0 rfl) ?_
      refine va_get (D := D) (ci := 3) (v := .ref a_s) (C := RX4) (T := TX4) (N := 21) hx hb hts inG4 hown hK hP 0 rfl rfl 0 (by decide) (hts _ wd2_152) (fun _ h9 => h9) rfl dX4_rank_24 ?_
      refine lv_bipush (v := 13) hx hb dX4_rank_27 (by decide) ?_
      refine lv_iload_n hx hb dX4_rank_29 rfl (lv_at hl 1 rfl) ?_
      refine lv_iadd hx hb dX4_rank_30 ?_
      obtain ⟨g9, h⟩ := chk_s h
      refine va_iald hx hb hK hP 1 0 rfl rfl (gi_in g9) dX4_rank_31 ?_
      refine lv_istore_n (lv' := [(3, .int (zs (Int32.toNatClampNeg (13 + x1)))), (0, .ref a0), (1, .int x1), (2, .int x2)]) hx hb dX4_rank_32 rfl hl (by decide) rfl (fun ls hl => ?_)
      refine lv_aload_n hx hb dX4_rank_33 rfl (lv_at hl 1 rfl) ?_
      refine va_get (D := D) (ci := 3) (v := .ref a_s) (C := RX4) (T := TX4) (N := 21) hx hb hts inG4 hown hK hP 0 rfl rfl 0 (by decide) (hts _ wd2_152) (fun _ h9 => h9) rfl dX4_rank_34 ?_
      refine lv_bipush (v := 13) hx hb dX4_rank_37 (by decide) ?_
      refine lv_iload_n hx hb dX4_rank_39 rfl (lv_at hl 2 rfl) ?_
      refine lv_iadd hx hb dX4_rank_40 ?_
      refine lv_iload_n hx hb dX4_rank_41 rfl (lv_at hl 3 rfl) ?_
      obtain ⟨g10, h⟩ := chk_s h
      refine va_iast hx hb hK hP hD hS 1 0 rfl rfl (gi_in g10) dX4_rank_42 (fun H locs hP hD hS => ?_)
      have hP : va_P D vwCl [(a0, .inr (3, [.ref a_s, .ref a_past, .ref a_kept, .int zisKept, .int q7.2, .ref a_text, .int ztyped, .ref a_measure, .int zmost1, .int zmost3, .int zmost5, .ref a_chosen, .ref a_ways, .int zspot, .int zreason, .int zplaces, .ref a_owners, .ref a_ranks, .ref a_sets, .ref a_toldAt, .ref a_line])), (a_s, .inl (cI, 37, .inl (upd zs (Int32.toNatClampNeg (13 + x1)) x2))), (a_past, .inl (cI, 148, .inl q7.1))] H := hP
      have hD : va_D A [(a0, .inr (3, [.ref a_s, .ref a_past, .ref a_kept, .int zisKept, .int q7.2, .ref a_text, .int ztyped, .ref a_measure, .int zmost1, .int zmost3, .int zmost5, .ref a_chosen, .ref a_ways, .int zspot, .int zreason, .int zplaces, .ref a_owners, .ref a_ranks, .ref a_sets, .ref a_toldAt, .ref a_line])), (a_s, .inl (cI, 37, .inl (upd zs (Int32.toNatClampNeg (13 + x1)) x2))), (a_past, .inl (cI, 148, .inl q7.1))] := hD
      refine lv_iload_n hx hb dX4_rank_43 rfl (lv_at hl 0 rfl) ?_
      obtain rfl := Option.some.inj h
      exact hret _ _ _ _ _ rfl hP hD hS dX4_rank_44
    · have h := itT h c6
      refine lv_iconst (v := (-1)) hx hb dX4_rank_17 (by decide) ?_
      obtain rfl := Option.some.inj h
      exact hret _ _ _ _ _ rfl hP hD hS dX4_rank_18
def f_X4_way (N : Nat) (x1 : Int32) (x2 : Int32) (x3 : Int32) (zs : Nat → Int32) (zpast : Nat → Int32) (zpasts : Int32) : Option (Int32 × (Nat → Int32) × (Nat → Int32) × Int32) :=
    Option.bind (f_X4_isPlace N x1 zs) (fun q1 => if q1 = 0 then (some ((-1), zs, zpast, zpasts)) else (Option.bind (f_X4_isPlace N x2 zs) (fun q4 => if q4 = 0 then (some ((-1), zs, zpast, zpasts)) else (Option.bind (f_X4_in N x3 0 1) (fun q7 => if q7 = 0 then (some ((-1), zs, zpast, zpasts)) else (Option.bind (f_X4_hasWay N x1 x2 zs) (fun q10 => Option.bind (α := Int32) (if x3 = 1 then (some (1)) else (some (0))) (fun q13 => if q10 = q13 then (some ((-2), zs, zpast, zpasts)) else (Option.bind (f_X4_changes N zs zpast zpasts) (fun q17 => chk (gi (25 + x1) 37) (chk (gi (25 + x1) 37) (chk (gi (25 + x1) 37) (Option.bind (f_X4_ones N ((upd zs (Int32.toNatClampNeg (25 + x1)) ((zs (Int32.toNatClampNeg (25 + x1))) ^^^ ((1 : Int32) <<< (x2 &&& 31)))) (Int32.toNatClampNeg (25 + x1)))) (fun q22 => some (q22, upd zs (Int32.toNatClampNeg (25 + x1)) ((zs (Int32.toNatClampNeg (25 + x1))) ^^^ ((1 : Int32) <<< (x2 &&& 31))), q17.1, q17.2)))))))))))))))
set_option maxHeartbeats 4000000 in
set_option maxRecDepth 100000 in
theorem c_X4_way (l : Launch) (D : va_G) (cI cC cH : ClassId) (a0 : Nat) (a_s : Nat) (a_past : Nat) (a_kept : Nat) (a_text : Nat) (a_measure : Nat) (a_chosen : Nat) (a_ways : Nat) (a_owners : Nat) (a_ranks : Nat) (a_sets : Nat) (a_toldAt : Nat) (a_line : Nat) (N : Nat) (x1 : Int32) (x2 : Int32) (x3 : Int32) (zs : Nat → Int32) (zpast : Nat → Int32) (zisKept : Int32) (zpasts : Int32) (ztyped : Int32) (zmost1 : Int32) (zmost3 : Int32) (zmost5 : Int32) (zspot : Int32) (zreason : Int32) (zplaces : Int32) (y : Int32 × (Nat → Int32) × (Nat → Int32) × Int32) (h : f_X4_way N x1 x2 x3 zs zpast zpasts = some y) : CTi l yX4_way cX4_way 4 (some .int) 1 22 D (tyL cI cC cH) [.ref a0, .int x1, .int x2, .int x3] [(a0, .inr (3, [.ref a_s, .ref a_past, .ref a_kept, .int zisKept, .int zpasts, .ref a_text, .int ztyped, .ref a_measure, .int zmost1, .int zmost3, .int zmost5, .ref a_chosen, .ref a_ways, .int zspot, .int zreason, .int zplaces, .ref a_owners, .ref a_ranks, .ref a_sets, .ref a_toldAt, .ref a_line])), (a_s, .inl (cI, 37, .inl zs)), (a_past, .inl (cI, 148, .inl zpast))] [(a0, .inr (3, [.ref a_s, .ref a_past, .ref a_kept, .int zisKept, .int y.2.2.2, .ref a_text, .int ztyped, .ref a_measure, .int zmost1, .int zmost3, .int zmost5, .ref a_chosen, .ref a_ways, .int zspot, .int zreason, .int zplaces, .ref a_owners, .ref a_ranks, .ref a_sets, .ref a_toldAt, .ref a_line])), (a_s, .inl (cI, 37, .inl y.2.1)), (a_past, .inl (cI, 148, .inl y.2.2.1))] y.1 := by
  unfold f_X4_way at h
  refine ctI (by decide) (Nat.le_of_ble_eq_true rfl) ?_
  intro p e s m args below meth c A Q ls F hret hP hD hS hl
  have hx := F.1
  have hb := F.2.1
  have hown : s.vm.findClass RX4 = some m.cls := F.2.2.2.1
  have hts := F.2.2.2.2.1
  have hN := F.2.2.2.2.2.1
  have hK := F.2.2.2.2.2.2.1
  have hl : lv_has ls 4 [(0, .ref a0), (1, .int x1), (2, .int x2), (3, .int x3)] := hl
  refine lv_aload_n hx hb dX4_way_0 rfl (lv_at hl 0 rfl) ?_
  refine lv_iload_n hx hb dX4_way_1 rfl (lv_at hl 1 rfl) ?_
  obtain ⟨q1, hq2, h⟩ := bd h
  refine kvI (ws' := [(a0, .inr (3, [.ref a_s, .ref a_past, .ref a_kept, .int zisKept, .int zpasts, .ref a_text, .int ztyped, .ref a_measure, .int zmost1, .int zmost3, .int zmost5, .ref a_chosen, .ref a_ways, .int zspot, .int zreason, .int zplaces, .ref a_owners, .ref a_ranks, .ref a_sets, .ref a_toldAt, .ref a_line])), (a_s, .inl (cI, 37, .inl zs)), (a_past, .inl (cI, 148, .inl zpast))]) (wr := [(a_past, .inl (cI, 148, .inl zpast))]) (As := [.int x1]) F (c_X4_isPlace l D cI cC cH a0 a_s a_past a_kept a_text a_measure a_chosen a_ways a_owners a_ranks a_sets a_toldAt a_line N x1 zs zisKept zpasts ztyped zmost1 zmost3 zmost5 zspot zreason zplaces q1 hq2) yfX4_isPlace ⟨wd2_231, wd2_233, wdp_20⟩ hP hD hS [0, 1] [2] [1, 2, 0] rfl rfl (by decide) (by decide) (by decide) rfl (by decide) 0 3 rfl rfl rfl ⟨Nat.le_of_ble_eq_true rfl, Nat.le_of_ble_eq_true rfl, Nat.zero_le _, Nat.zero_le _⟩ rfl hl rfl (Nat.le_of_ble_eq_true rfl) dX4_way_2 (fun H locs hP hD hS => ?_)
  refine lv_if_eq (tgt := 25) hx hb dX4_way_5 (by decide) (fun c3 => ?_) (fun c3 => ?_)
  · have h := itT h c3
    refine lv_iconst (v := (-1)) hx hb dX4_way_25 (by decide) ?_
    obtain rfl := Option.some.inj h
    exact hret _ _ _ _ _ rfl hP hD hS dX4_way_26
  · have h := itF h c3
    refine lv_aload_n hx hb dX4_way_8 rfl (lv_at hl 0 rfl) ?_
    refine lv_iload_n hx hb dX4_way_9 rfl (lv_at hl 2 rfl) ?_
    obtain ⟨q4, hq5, h⟩ := bd h
    refine kvI (ws' := [(a0, .inr (3, [.ref a_s, .ref a_past, .ref a_kept, .int zisKept, .int zpasts, .ref a_text, .int ztyped, .ref a_measure, .int zmost1, .int zmost3, .int zmost5, .ref a_chosen, .ref a_ways, .int zspot, .int zreason, .int zplaces, .ref a_owners, .ref a_ranks, .ref a_sets, .ref a_toldAt, .ref a_line])), (a_s, .inl (cI, 37, .inl zs)), (a_past, .inl (cI, 148, .inl zpast))]) (wr := [(a_past, .inl (cI, 148, .inl zpast))]) (As := [.int x2]) F (c_X4_isPlace l D cI cC cH a0 a_s a_past a_kept a_text a_measure a_chosen a_ways a_owners a_ranks a_sets a_toldAt a_line N x2 zs zisKept zpasts ztyped zmost1 zmost3 zmost5 zspot zreason zplaces q4 hq5) yfX4_isPlace ⟨wd2_231, wd2_233, wdp_20⟩ hP hD hS [0, 1] [2] [1, 2, 0] rfl rfl (by decide) (by decide) (by decide) rfl (by decide) 0 3 rfl rfl rfl ⟨Nat.le_of_ble_eq_true rfl, Nat.le_of_ble_eq_true rfl, Nat.zero_le _, Nat.zero_le _⟩ rfl hl rfl (Nat.le_of_ble_eq_true rfl) dX4_way_10 (fun H locs hP hD hS => ?_)
    refine lv_if_eq (tgt := 25) hx hb dX4_way_13 (by decide) (fun c6 => ?_) (fun c6 => ?_)
    · have h := itT h c6
      refine lv_iconst (v := (-1)) hx hb dX4_way_25 (by decide) ?_
      obtain rfl := Option.some.inj h
      exact hret _ _ _ _ _ rfl hP hD hS dX4_way_26
    · have h := itF h c6
      refine lv_iload_n hx hb dX4_way_16 rfl (lv_at hl 3 rfl) ?_
      refine lv_iconst (v := 0) hx hb dX4_way_17 (by decide) ?_
      refine lv_iconst (v := 1) hx hb dX4_way_18 (by decide) ?_
      obtain ⟨q7, hq8, h⟩ := bd h
      refine ks0 (As := [.int x3, .int 0, .int 1]) F (c_X4_in l D cI cC cH  N x3 0 1 q7 hq8) yfX4_in ⟨wd2_220, wd2_221⟩ hP hD hS ⟨Nat.le_of_ble_eq_true rfl, Nat.le_of_ble_eq_true rfl, Nat.zero_le _, Nat.zero_le _⟩ rfl hl rfl (Nat.le_of_ble_eq_true rfl) dX4_way_19 (fun H locs hP hD hS => ?_)
      refine lv_if_ne (tgt := 27) hx hb dX4_way_22 (by decide) (fun c9 => ?_) (fun c9 => ?_)
      · have h := itF h c9
        refine lv_aload_n hx hb dX4_way_27 rfl (lv_at hl 0 rfl) ?_
        refine lv_iload_n hx hb dX4_way_28 rfl (lv_at hl 1 rfl) ?_
        refine lv_iload_n hx hb dX4_way_29 rfl (lv_at hl 2 rfl) ?_
        obtain ⟨q10, hq11, h⟩ := bd h
        refine kvI (ws' := [(a0, .inr (3, [.ref a_s, .ref a_past, .ref a_kept, .int zisKept, .int zpasts, .ref a_text, .int ztyped, .ref a_measure, .int zmost1, .int zmost3, .int zmost5, .ref a_chosen, .ref a_ways, .int zspot, .int zreason, .int zplaces, .ref a_owners, .ref a_ranks, .ref a_sets, .ref a_toldAt, .ref a_line])), (a_s, .inl (cI, 37, .inl zs)), (a_past, .inl (cI, 148, .inl zpast))]) (wr := [(a_past, .inl (cI, 148, .inl zpast))]) (As := [.int x1, .int x2]) F (c_X4_hasWay l D cI cC cH a0 a_s a_past a_kept a_text a_measure a_chosen a_ways a_owners a_ranks a_sets a_toldAt a_line N x1 x2 zs zisKept zpasts ztyped zmost1 zmost3 zmost5 zspot zreason zplaces q10 hq11) yfX4_hasWay ⟨wd3_3, wd3_5, wdp_21⟩ hP hD hS [0, 1] [2] [1, 2, 0] rfl rfl (by decide) (by decide) (by decide) rfl (by decide) 0 3 rfl rfl rfl ⟨Nat.le_of_ble_eq_true rfl, Nat.le_of_ble_eq_true rfl, Nat.zero_le _, Nat.zero_le _⟩ rfl hl rfl (Nat.le_of_ble_eq_true rfl) dX4_way_30 (fun H locs hP hD hS => ?_)
        refine lv_iload_n hx hb dX4_way_33 rfl (lv_at hl 3 rfl) ?_
        refine lv_iconst (v := 1) hx hb dX4_way_34 (by decide) ?_
        obtain ⟨q13, hb24, h⟩ := bd h
        have J14 : ∀ (ls : Array Slot) (H : Heap) (locs : List Loc), lv_has ls 4 [(0, .ref a0), (1, .int x1), (2, .int x2)] → va_P D vwCl [(a0, .inr (3, [.ref a_s, .ref a_past, .ref a_kept, .int zisKept, .int zpasts, .ref a_text, .int ztyped, .ref a_measure, .int zmost1, .int zmost3, .int zmost5, .ref a_chosen, .ref a_ways, .int zspot, .int zreason, .int zplaces, .ref a_owners, .ref a_ranks, .ref a_sets, .ref a_toldAt, .ref a_line])), (a_s, .inl (cI, 37, .inl zs)), (a_past, .inl (cI, 148, .inl zpast))] H → va_D A [(a0, .inr (3, [.ref a_s, .ref a_past, .ref a_kept, .int zisKept, .int zpasts, .ref a_text, .int ztyped, .ref a_measure, .int zmost1, .int zmost3, .int zmost5, .ref a_chosen, .ref a_ways, .int zspot, .int zreason, .int zplaces, .ref a_owners, .ref a_ranks, .ref a_sets, .ref a_toldAt, .ref a_line])), (a_s, .inl (cI, 37, .inl zs)), (a_past, .inl (cI, 148, .inl zpast))] → va_S A s.heap H locs → W p l e (rmm 1 22) s m args below meth c H locs 0 0 Q (F0 m 43 ls [.int q13, .int q10]) := by
          intro ls H locs hl hP hD hS
          refine lv_icmp_ne (tgt := 49) hx hb dX4_way_43 (by decide) (fun c16 => ?_) (fun c16 => ?_)
          · have h := itF h c16
            refine lv_aload_n hx hb dX4_way_49 rfl (lv_at hl 0 rfl) ?_
            obtain ⟨q17, hq18, h⟩ := bd h
            refine kvV (ws' := [(a0, .inr (3, [.ref a_s, .ref a_past, .ref a_kept, .int zisKept, .int q17.2, .ref a_text, .int ztyped, .ref a_measure, .int zmost1, .int zmost3, .int zmost5, .ref a_chosen, .ref a_ways, .int zspot, .int zreason, .int zplaces, .ref a_owners, .ref a_ranks, .ref a_sets, .ref a_toldAt, .ref a_line])), (a_s, .inl (cI, 37, .inl zs)), (a_past, .inl (cI, 148, .inl q17.1))]) (wr := []) (As := []) F (c_X4_changes l D cI cC cH a0 a_s a_past a_kept a_text a_measure a_chosen a_ways a_owners a_ranks a_sets a_toldAt a_line N zs zpast zisKept zpasts ztyped zmost1 zmost3 zmost5 zspot zreason zplaces q17 hq18) yfX4_changes ⟨wd2_223, wd2_225, wdp_19⟩ hP hD hS [0, 1, 2] [] [0, 1, 2] rfl rfl (by decide) (by decide) (by decide) rfl (by decide) 0 3 rfl rfl rfl ⟨Nat.le_of_ble_eq_true rfl, Nat.le_of_ble_eq_true rfl, Nat.zero_le _, Nat.zero_le _⟩ rfl hl rfl (Nat.le_of_ble_eq_true rfl) dX4_way_50 (fun H locs hP hD hS => ?_)
            refine lv_aload_n hx hb dX4_way_53 rfl (lv_at hl 0 rfl) ?_
            refine va_get (D := D) (ci := 3) (v := .ref a_s) (C := RX4) (T := TX4) (N := 21) hx hb hts inG4 hown hK hP 0 rfl rfl 0 (by decide) (hts _ wd2_152) (fun _ h9 => h9) rfl dX4_way_54 ?_
            refine lv_bipush (v := 25) hx hb dX4_way_57 (by decide) ?_
            refine lv_iload_n hx hb dX4_way_59 rfl (lv_at hl 1 rfl) ?_
            refine lv_iadd hx hb dX4_way_60 ?_
            refine lv_dup2_11 hx hb dX4_way_61 rfl rfl ?_
            obtain ⟨g19, h⟩ := chk_s h
            refine va_iald hx hb hK hP 1 0 rfl rfl (gi_in g19) dX4_way_62 ?_
            refine lv_iconst (v := 1) hx hb dX4_way_63 (by decide) ?_
            refine lv_iload_n hx hb dX4_way_64 rfl (lv_at hl 2 rfl) ?_
            refine lv_ishl hx hb dX4_way_65 ?_
            refine lv_ixor hx hb dX4_way_66 ?_
            obtain ⟨g20, h⟩ := chk_s h
            refine va_iast hx hb hK hP hD hS 1 0 rfl rfl (gi_in g20) dX4_way_67 (fun H locs hP hD hS => ?_)
            have hP : va_P D vwCl [(a0, .inr (3, [.ref a_s, .ref a_past, .ref a_kept, .int zisKept, .int q17.2, .ref a_text, .int ztyped, .ref a_measure, .int zmost1, .int zmost3, .int zmost5, .ref a_chosen, .ref a_ways, .int zspot, .int zreason, .int zplaces, .ref a_owners, .ref a_ranks, .ref a_sets, .ref a_toldAt, .ref a_line])), (a_s, .inl (cI, 37, .inl (upd zs (Int32.toNatClampNeg (25 + x1)) ((zs (Int32.toNatClampNeg (25 + x1))) ^^^ ((1 : Int32) <<< (x2 &&& 31)))))), (a_past, .inl (cI, 148, .inl q17.1))] H := hP
            have hD : va_D A [(a0, .inr (3, [.ref a_s, .ref a_past, .ref a_kept, .int zisKept, .int q17.2, .ref a_text, .int ztyped, .ref a_measure, .int zmost1, .int zmost3, .int zmost5, .ref a_chosen, .ref a_ways, .int zspot, .int zreason, .int zplaces, .ref a_owners, .ref a_ranks, .ref a_sets, .ref a_toldAt, .ref a_line])), (a_s, .inl (cI, 37, .inl (upd zs (Int32.toNatClampNeg (25 + x1)) ((zs (Int32.toNatClampNeg (25 + x1))) ^^^ ((1 : Int32) <<< (x2 &&& 31)))))), (a_past, .inl (cI, 148, .inl q17.1))] := hD
            refine lv_aload_n hx hb dX4_way_68 rfl (lv_at hl 0 rfl) ?_
            refine va_get (D := D) (ci := 3) (v := .ref a_s) (C := RX4) (T := TX4) (N := 21) hx hb hts inG4 hown hK hP 0 rfl rfl 0 (by decide) (hts _ wd2_152) (fun _ h9 => h9) rfl dX4_way_69 ?_
            refine lv_bipush (v := 25) hx hb dX4_way_72 (by decide) ?_
            refine lv_iload_n hx hb dX4_way_74 rfl (lv_at hl 1 rfl) ?_
            refine lv_iadd hx hb dX4_way_75 ?_
            obtain ⟨g21, h⟩ := chk_s h
            refine va_iald hx hb hK hP 1 0 rfl rfl (gi_in g21) dX4_way_76 ?_
            obtain ⟨q22, hq23, h⟩ := bd h
            refine ks0 (As := [.int ((upd zs (Int32.toNatClampNeg (25 + x1)) ((zs (Int32.toNatClampNeg (25 + x1))) ^^^ ((1 : Int32) <<< (x2 &&& 31)))) (Int32.toNatClampNeg (25 + x1)))]) F (c_X4_ones l D cI cC cH  N ((upd zs (Int32.toNatClampNeg (25 + x1)) ((zs (Int32.toNatClampNeg (25 + x1))) ^^^ ((1 : Int32) <<< (x2 &&& 31)))) (Int32.toNatClampNeg (25 + x1))) q22 hq23) yfX4_ones ⟨wd3_7, wd3_8⟩ hP hD hS ⟨Nat.le_of_ble_eq_true rfl, Nat.le_of_ble_eq_true rfl, Nat.zero_le _, Nat.zero_le _⟩ rfl hl rfl (Nat.le_of_ble_eq_true rfl) dX4_way_77 (fun H locs hP hD hS => ?_)
            obtain rfl := Option.some.inj h
            exact hret _ _ _ _ _ rfl hP hD hS dX4_way_80
          · have h := itT h c16
            refine lv_bipush (v := (-2)) hx hb dX4_way_46 (by decide) ?_
            obtain rfl := Option.some.inj h
            exact hret _ _ _ _ _ rfl hP hD hS dX4_way_48
        clear h
        have h := hb24
        clear hb24
        refine lv_icmp_ne (tgt := 42) hx hb dX4_way_35 (by decide) (fun c12 => ?_) (fun c12 => ?_)
        · have h := itF h c12
          refine lv_iconst (v := 0) hx hb dX4_way_42 (by decide) ?_
          obtain rfl := Option.some.inj h
          exact J14 _ _ _ (lv_sub hl [0, 1, 2] rfl) hP hD hS
        · have h := itT h c12
          refine lv_iconst (v := 1) hx hb dX4_way_38 (by decide) ?_
          refine lv_goto (tgt := 43) hx hb dX4_way_39 (by decide) ?_
          obtain rfl := Option.some.inj h
          exact J14 _ _ _ (lv_sub hl [0, 1, 2] rfl) hP hD hS
      · have h := itT h c9
        refine lv_iconst (v := (-1)) hx hb dX4_way_25 (by decide) ?_
        obtain rfl := Option.some.inj h
        exact hret _ _ _ _ _ rfl hP hD hS dX4_way_26
def f_X4_drop_L32 (N : Nat) (x1_32 : Int32) (x2_32 : Int32) : Nat → Int32 → (Nat → Int32) → Option ((Nat → Int32))
  | 0, _, _ => none
  | n_32 + 1, x3_32, zs_32 =>
    chk (gi 0 37) (if (zs_32 (Int32.toNatClampNeg 0)) ≤ x3_32 then (some zs_32) else (Option.bind (α := Int32) (if x1_32 ≤ x3_32 then (some (x3_32 + 1)) else (some (x3_32))) (fun q11 => chk (gi (25 + q11) 37) (chk (gi (1 + q11) 37) (chk (gi (1 + x3_32) 37) (chk (gi (13 + q11) 37) (chk (gi (13 + x3_32) 37) (chk (gi (25 + x3_32) 37) (f_X4_drop_L32 N x1_32 x2_32 n_32 (x3_32 + 1) (upd (upd (upd zs_32 (Int32.toNatClampNeg (1 + x3_32)) (zs_32 (Int32.toNatClampNeg (1 + q11)))) (Int32.toNatClampNeg (13 + x3_32)) ((upd zs_32 (Int32.toNatClampNeg (1 + x3_32)) (zs_32 (Int32.toNatClampNeg (1 + q11)))) (Int32.toNatClampNeg (13 + q11)))) (Int32.toNatClampNeg (25 + x3_32)) (((zs_32 (Int32.toNatClampNeg (25 + q11))) &&& x2_32) ||| (((zs_32 (Int32.toNatClampNeg (25 + q11))) >>> (1 &&& 31)) &&& (x2_32 ^^^ (-1))))))))))))))
def f_X4_drop (N : Nat) (x1 : Int32) (zs : Nat → Int32) (zpast : Nat → Int32) (zpasts : Int32) : Option (Int32 × (Nat → Int32) × (Nat → Int32) × Int32) :=
    Option.bind (f_X4_isPlace N x1 zs) (fun q1 => if q1 = 0 then (some ((-1), zs, zpast, zpasts)) else (Option.bind (f_X4_changes N zs zpast zpasts) (fun q4 => chk (gi 0 37) (chk (gi 0 37) (Option.bind (f_X4_drop_L32 N x1 (((1 : Int32) <<< (x1 &&& 31)) - 1) N 0 (upd zs (Int32.toNatClampNeg 0) ((zs (Int32.toNatClampNeg 0)) - 1))) (fun q22 => chk (gi 0 37) (some (q22 (Int32.toNatClampNeg 0), q22, q4.1, q4.2))))))))
set_option maxHeartbeats 4000000 in
set_option maxRecDepth 100000 in
theorem c_X4_drop (l : Launch) (D : va_G) (cI cC cH : ClassId) (a0 : Nat) (a_s : Nat) (a_past : Nat) (a_kept : Nat) (a_text : Nat) (a_measure : Nat) (a_chosen : Nat) (a_ways : Nat) (a_owners : Nat) (a_ranks : Nat) (a_sets : Nat) (a_toldAt : Nat) (a_line : Nat) (N : Nat) (x1 : Int32) (zs : Nat → Int32) (zpast : Nat → Int32) (zisKept : Int32) (zpasts : Int32) (ztyped : Int32) (zmost1 : Int32) (zmost3 : Int32) (zmost5 : Int32) (zspot : Int32) (zreason : Int32) (zplaces : Int32) (y : Int32 × (Nat → Int32) × (Nat → Int32) × Int32) (h : f_X4_drop N x1 zs zpast zpasts = some y) : CTi l yX4_drop cX4_drop 6 (some .int) 1 21 D (tyL cI cC cH) [.ref a0, .int x1] [(a0, .inr (3, [.ref a_s, .ref a_past, .ref a_kept, .int zisKept, .int zpasts, .ref a_text, .int ztyped, .ref a_measure, .int zmost1, .int zmost3, .int zmost5, .ref a_chosen, .ref a_ways, .int zspot, .int zreason, .int zplaces, .ref a_owners, .ref a_ranks, .ref a_sets, .ref a_toldAt, .ref a_line])), (a_s, .inl (cI, 37, .inl zs)), (a_past, .inl (cI, 148, .inl zpast))] [(a0, .inr (3, [.ref a_s, .ref a_past, .ref a_kept, .int zisKept, .int y.2.2.2, .ref a_text, .int ztyped, .ref a_measure, .int zmost1, .int zmost3, .int zmost5, .ref a_chosen, .ref a_ways, .int zspot, .int zreason, .int zplaces, .ref a_owners, .ref a_ranks, .ref a_sets, .ref a_toldAt, .ref a_line])), (a_s, .inl (cI, 37, .inl y.2.1)), (a_past, .inl (cI, 148, .inl y.2.2.1))] y.1 := by
  unfold f_X4_drop at h
  refine ctI (by decide) (Nat.le_of_ble_eq_true rfl) ?_
  intro p e s m args below meth c A Q ls F hret hP hD hS hl
  have hx := F.1
  have hb := F.2.1
  have hown : s.vm.findClass RX4 = some m.cls := F.2.2.2.1
  have hts := F.2.2.2.2.1
  have hN := F.2.2.2.2.2.1
  have hK := F.2.2.2.2.2.2.1
  have hl : lv_has ls 6 [(0, .ref a0), (1, .int x1)] := hl
  refine lv_aload_n hx hb dX4_drop_0 rfl (lv_at hl 0 rfl) ?_
  refine lv_iload_n hx hb dX4_drop_1 rfl (lv_at hl 1 rfl) ?_
  obtain ⟨q1, hq2, h⟩ := bd h
  refine kvI (ws' := [(a0, .inr (3, [.ref a_s, .ref a_past, .ref a_kept, .int zisKept, .int zpasts, .ref a_text, .int ztyped, .ref a_measure, .int zmost1, .int zmost3, .int zmost5, .ref a_chosen, .ref a_ways, .int zspot, .int zreason, .int zplaces, .ref a_owners, .ref a_ranks, .ref a_sets, .ref a_toldAt, .ref a_line])), (a_s, .inl (cI, 37, .inl zs)), (a_past, .inl (cI, 148, .inl zpast))]) (wr := [(a_past, .inl (cI, 148, .inl zpast))]) (As := [.int x1]) F (c_X4_isPlace l D cI cC cH a0 a_s a_past a_kept a_text a_measure a_chosen a_ways a_owners a_ranks a_sets a_toldAt a_line N x1 zs zisKept zpasts ztyped zmost1 zmost3 zmost5 zspot zreason zplaces q1 hq2) yfX4_isPlace ⟨wd2_231, wd2_233, wdp_20⟩ hP hD hS [0, 1] [2] [1, 2, 0] rfl rfl (by decide) (by decide) (by decide) rfl (by decide) 0 3 rfl rfl rfl ⟨Nat.le_of_ble_eq_true rfl, Nat.le_of_ble_eq_true rfl, Nat.zero_le _, Nat.zero_le _⟩ rfl hl rfl (Nat.le_of_ble_eq_true rfl) dX4_drop_2 (fun H locs hP hD hS => ?_)
  refine lv_if_ne (tgt := 10) hx hb dX4_drop_5 (by decide) (fun c3 => ?_) (fun c3 => ?_)
  · have h := itF h c3
    refine lv_aload_n hx hb dX4_drop_10 rfl (lv_at hl 0 rfl) ?_
    obtain ⟨q4, hq5, h⟩ := bd h
    refine kvV (ws' := [(a0, .inr (3, [.ref a_s, .ref a_past, .ref a_kept, .int zisKept, .int q4.2, .ref a_text, .int ztyped, .ref a_measure, .int zmost1, .int zmost3, .int zmost5, .ref a_chosen, .ref a_ways, .int zspot, .int zreason, .int zplaces, .ref a_owners, .ref a_ranks, .ref a_sets, .ref a_toldAt, .ref a_line])), (a_s, .inl (cI, 37, .inl zs)), (a_past, .inl (cI, 148, .inl q4.1))]) (wr := []) (As := []) F (c_X4_changes l D cI cC cH a0 a_s a_past a_kept a_text a_measure a_chosen a_ways a_owners a_ranks a_sets a_toldAt a_line N zs zpast zisKept zpasts ztyped zmost1 zmost3 zmost5 zspot zreason zplaces q4 hq5) yfX4_changes ⟨wd2_223, wd2_225, wdp_19⟩ hP hD hS [0, 1, 2] [] [0, 1, 2] rfl rfl (by decide) (by decide) (by decide) rfl (by decide) 0 3 rfl rfl rfl ⟨Nat.le_of_ble_eq_true rfl, Nat.le_of_ble_eq_true rfl, Nat.zero_le _, Nat.zero_le _⟩ rfl hl rfl (Nat.le_of_ble_eq_true rfl) dX4_drop_11 (fun H locs hP hD hS => ?_)
    refine lv_aload_n hx hb dX4_drop_14 rfl (lv_at hl 0 rfl) ?_
    refine va_get (D := D) (ci := 3) (v := .ref a_s) (C := RX4) (T := TX4) (N := 21) hx hb hts inG4 hown hK hP 0 rfl rfl 0 (by decide) (hts _ wd2_152) (fun _ h9 => h9) rfl dX4_drop_15 ?_
    refine lv_iconst (v := 0) hx hb dX4_drop_18 (by decide) ?_
    refine lv_dup2_11 hx hb dX4_drop_19 rfl rfl ?_
    obtain ⟨g6, h⟩ := chk_s h
    refine va_iald hx hb hK hP 1 0 rfl rfl (gi_in g6) dX4_drop_20 ?_
    refine lv_iconst (v := 1) hx hb dX4_drop_21 (by decide) ?_
    refine lv_isub hx hb dX4_drop_22 ?_
    obtain ⟨g7, h⟩ := chk_s h
    refine va_iast hx hb hK hP hD hS 1 0 rfl rfl (gi_in g7) dX4_drop_23 (fun H locs hP hD hS => ?_)
    have hP : va_P D vwCl [(a0, .inr (3, [.ref a_s, .ref a_past, .ref a_kept, .int zisKept, .int q4.2, .ref a_text, .int ztyped, .ref a_measure, .int zmost1, .int zmost3, .int zmost5, .ref a_chosen, .ref a_ways, .int zspot, .int zreason, .int zplaces, .ref a_owners, .ref a_ranks, .ref a_sets, .ref a_toldAt, .ref a_line])), (a_s, .inl (cI, 37, .inl (upd zs (Int32.toNatClampNeg 0) ((zs (Int32.toNatClampNeg 0)) - 1)))), (a_past, .inl (cI, 148, .inl q4.1))] H := hP
    have hD : va_D A [(a0, .inr (3, [.ref a_s, .ref a_past, .ref a_kept, .int zisKept, .int q4.2, .ref a_text, .int ztyped, .ref a_measure, .int zmost1, .int zmost3, .int zmost5, .ref a_chosen, .ref a_ways, .int zspot, .int zreason, .int zplaces, .ref a_owners, .ref a_ranks, .ref a_sets, .ref a_toldAt, .ref a_line])), (a_s, .inl (cI, 37, .inl (upd zs (Int32.toNatClampNeg 0) ((zs (Int32.toNatClampNeg 0)) - 1)))), (a_past, .inl (cI, 148, .inl q4.1))] := hD
    refine lv_iconst (v := 1) hx hb dX4_drop_24 (by decide) ?_
    refine lv_iload_n hx hb dX4_drop_25 rfl (lv_at hl 1 rfl) ?_
    refine lv_ishl hx hb dX4_drop_26 ?_
    refine lv_iconst (v := 1) hx hb dX4_drop_27 (by decide) ?_
    refine lv_isub hx hb dX4_drop_28 ?_
    refine lv_istore_n (lv' := [(2, .int (((1 : Int32) <<< (x1 &&& 31)) - 1)), (0, .ref a0), (1, .int x1)]) hx hb dX4_drop_29 rfl hl (by decide) rfl (fun ls hl => ?_)
    refine lv_iconst (v := 0) hx hb dX4_drop_30 (by decide) ?_
    refine lv_istore_n (lv' := [(3, .int 0), (2, .int (((1 : Int32) <<< (x1 &&& 31)) - 1)), (0, .ref a0), (1, .int x1)]) hx hb dX4_drop_31 rfl hl (by decide) rfl (fun ls hl => ?_)
    have L_32 : ∀ (x1_32 : Int32) (x2_32 : Int32) (zpast_32 : Nat → Int32) (zisKept_32 : Int32) (zpasts_32 : Int32) (ztyped_32 : Int32) (zmost1_32 : Int32) (zmost3_32 : Int32) (zmost5_32 : Int32) (zspot_32 : Int32) (zreason_32 : Int32) (zplaces_32 : Int32), ∀ (n_32 : Nat) (x3_32 : Int32) (zs_32 : Nat → Int32) (q21 : ((Nat → Int32))), f_X4_drop_L32 N x1_32 x2_32 n_32 x3_32 zs_32 = some q21 → (∀ (ls : Array Slot) (H : Heap) (locs : List Loc), lv_has ls 6 [(0, .ref a0)] → va_P D vwCl [(a0, .inr (3, [.ref a_s, .ref a_past, .ref a_kept, .int zisKept_32, .int zpasts_32, .ref a_text, .int ztyped_32, .ref a_measure, .int zmost1_32, .int zmost3_32, .int zmost5_32, .ref a_chosen, .ref a_ways, .int zspot_32, .int zreason_32, .int zplaces_32, .ref a_owners, .ref a_ranks, .ref a_sets, .ref a_toldAt, .ref a_line])), (a_s, .inl (cI, 37, .inl q21)), (a_past, .inl (cI, 148, .inl zpast_32))] H → va_D A [(a0, .inr (3, [.ref a_s, .ref a_past, .ref a_kept, .int zisKept_32, .int zpasts_32, .ref a_text, .int ztyped_32, .ref a_measure, .int zmost1_32, .int zmost3_32, .int zmost5_32, .ref a_chosen, .ref a_ways, .int zspot_32, .int zreason_32, .int zplaces_32, .ref a_owners, .ref a_ranks, .ref a_sets, .ref a_toldAt, .ref a_line])), (a_s, .inl (cI, 37, .inl q21)), (a_past, .inl (cI, 148, .inl zpast_32))] → va_S A s.heap H locs → W p l e (rmm 1 21) s m args below meth c H locs 0 0 Q (F0 m 132 ls [])) → ∀ (ls : Array Slot) (H : Heap) (locs : List Loc), lv_has ls 6 [(0, .ref a0), (1, .int x1_32), (2, .int x2_32), (3, .int x3_32)] → va_P D vwCl [(a0, .inr (3, [.ref a_s, .ref a_past, .ref a_kept, .int zisKept_32, .int zpasts_32, .ref a_text, .int ztyped_32, .ref a_measure, .int zmost1_32, .int zmost3_32, .int zmost5_32, .ref a_chosen, .ref a_ways, .int zspot_32, .int zreason_32, .int zplaces_32, .ref a_owners, .ref a_ranks, .ref a_sets, .ref a_toldAt, .ref a_line])), (a_s, .inl (cI, 37, .inl zs_32)), (a_past, .inl (cI, 148, .inl zpast_32))] H → va_D A [(a0, .inr (3, [.ref a_s, .ref a_past, .ref a_kept, .int zisKept_32, .int zpasts_32, .ref a_text, .int ztyped_32, .ref a_measure, .int zmost1_32, .int zmost3_32, .int zmost5_32, .ref a_chosen, .ref a_ways, .int zspot_32, .int zreason_32, .int zplaces_32, .ref a_owners, .ref a_ranks, .ref a_sets, .ref a_toldAt, .ref a_line])), (a_s, .inl (cI, 37, .inl zs_32)), (a_past, .inl (cI, 148, .inl zpast_32))] → va_S A s.heap H locs → W p l e (rmm 1 21) s m args below meth c H locs 0 0 Q (F0 m 32 ls []) := by
      intro x1_32 x2_32 zpast_32 zisKept_32 zpasts_32 ztyped_32 zmost1_32 zmost3_32 zmost5_32 zspot_32 zreason_32 zplaces_32 n_32
      induction n_32 with
      | zero => intro x3_32 zs_32 q21 h; exact no_s h
      | succ n_32 ih_32 =>
        intro x3_32 zs_32 q21 h J_32 ls H locs hl hP hD hS
        rw [f_X4_drop_L32] at h
        refine lv_iload_n hx hb dX4_drop_32 rfl (lv_at hl 3 rfl) ?_
        refine lv_aload_n hx hb dX4_drop_33 rfl (lv_at hl 0 rfl) ?_
        refine va_get (D := D) (ci := 3) (v := .ref a_s) (C := RX4) (T := TX4) (N := 21) hx hb hts inG4 hown hK hP 0 rfl rfl 0 (by decide) (hts _ wd2_152) (fun _ h9 => h9) rfl dX4_drop_34 ?_
        refine lv_iconst (v := 0) hx hb dX4_drop_37 (by decide) ?_
        obtain ⟨g8, h⟩ := chk_s h
        refine va_iald hx hb hK hP 1 0 rfl rfl (gi_in g8) dX4_drop_38 ?_
        refine lv_icmp_ge (tgt := 132) hx hb dX4_drop_39 (by decide) (fun c9 => ?_) (fun c9 => ?_)
        · have h := itT h c9
          obtain rfl := Option.some.inj h
          exact J_32 _ _ _ (lv_sub hl [0] rfl) hP hD hS
        · have h := itF h c9
          refine lv_iload_n hx hb dX4_drop_42 rfl (lv_at hl 3 rfl) ?_
          refine lv_iload_n hx hb dX4_drop_43 rfl (lv_at hl 1 rfl) ?_
          obtain ⟨q11, hb20, h⟩ := bd h
          have J12 : ∀ (ls : Array Slot) (H : Heap) (locs : List Loc), lv_has ls 6 [(0, .ref a0), (1, .int x1_32), (2, .int x2_32), (3, .int x3_32)] → va_P D vwCl [(a0, .inr (3, [.ref a_s, .ref a_past, .ref a_kept, .int zisKept_32, .int zpasts_32, .ref a_text, .int ztyped_32, .ref a_measure, .int zmost1_32, .int zmost3_32, .int zmost5_32, .ref a_chosen, .ref a_ways, .int zspot_32, .int zreason_32, .int zplaces_32, .ref a_owners, .ref a_ranks, .ref a_sets, .ref a_toldAt, .ref a_line])), (a_s, .inl (cI, 37, .inl zs_32)), (a_past, .inl (cI, 148, .inl zpast_32))] H → va_D A [(a0, .inr (3, [.ref a_s, .ref a_past, .ref a_kept, .int zisKept_32, .int zpasts_32, .ref a_text, .int ztyped_32, .ref a_measure, .int zmost1_32, .int zmost3_32, .int zmost5_32, .ref a_chosen, .ref a_ways, .int zspot_32, .int zreason_32, .int zplaces_32, .ref a_owners, .ref a_ranks, .ref a_sets, .ref a_toldAt, .ref a_line])), (a_s, .inl (cI, 37, .inl zs_32)), (a_past, .inl (cI, 148, .inl zpast_32))] → va_S A s.heap H locs → W p l e (rmm 1 21) s m args below meth c H locs 0 0 Q (F0 m 54 ls [.int q11]) := by
            intro ls H locs hl hP hD hS
            refine lv_istore (lv' := [(4, .int q11), (0, .ref a0), (1, .int x1_32), (2, .int x2_32), (3, .int x3_32)]) hx hb dX4_drop_54 hl (by decide) rfl (fun ls hl => ?_)
            refine lv_aload_n hx hb dX4_drop_56 rfl (lv_at hl 1 rfl) ?_
            refine va_get (D := D) (ci := 3) (v := .ref a_s) (C := RX4) (T := TX4) (N := 21) hx hb hts inG4 hown hK hP 0 rfl rfl 0 (by decide) (hts _ wd2_152) (fun _ h9 => h9) rfl dX4_drop_57 ?_
            refine lv_bipush (v := 25) hx hb dX4_drop_60 (by decide) ?_
            refine lv_iload hx hb dX4_drop_62 (lv_at hl 0 rfl) ?_
            refine lv_iadd hx hb dX4_drop_64 ?_
            obtain ⟨g14, h⟩ := chk_s h
            refine va_iald hx hb hK hP 1 0 rfl rfl (gi_in g14) dX4_drop_65 ?_
            refine lv_istore (lv' := [(5, .int (zs_32 (Int32.toNatClampNeg (25 + q11)))), (4, .int q11), (0, .ref a0), (1, .int x1_32), (2, .int x2_32), (3, .int x3_32)]) hx hb dX4_drop_66 hl (by decide) rfl (fun ls hl => ?_)
            refine lv_aload_n hx hb dX4_drop_68 rfl (lv_at hl 2 rfl) ?_
            refine va_get (D := D) (ci := 3) (v := .ref a_s) (C := RX4) (T := TX4) (N := 21) hx hb hts inG4 hown hK hP 0 rfl rfl 0 (by decide) (hts _ wd2_152) (fun _ h9 => h9) rfl dX4_drop_69 ?_
            refine lv_iconst (v := 1) hx hb dX4_drop_72 (by decide) ?_
            refine lv_iload_n hx hb dX4_drop_73 rfl (lv_at hl 5 rfl) ?_
            refine lv_iadd hx hb dX4_drop_74 ?_
            refine lv_aload_n hx hb dX4_drop_75 rfl (lv_at hl 2 rfl) ?_
            refine va_get (D := D) (ci := 3) (v := .ref a_s) (C := RX4) (T := TX4) (N := 21) hx hb hts inG4 hown hK hP 0 rfl rfl 0 (by decide) (hts _ wd2_152) (fun _ h9 => h9) rfl dX4_drop_76 ?_
            refine lv_iconst (v := 1) hx hb dX4_drop_79 (by decide) ?_
            refine lv_iload hx hb dX4_drop_80 (lv_at hl 1 rfl) ?_
            refine lv_iadd hx hb dX4_drop_82 ?_
            obtain ⟨g15, h⟩ := chk_s h
            refine va_iald hx hb hK hP 1 0 rfl rfl (gi_in g15) dX4_drop_83 ?_
            obtain ⟨g16, h⟩ := chk_s h
            refine va_iast hx hb hK hP hD hS 1 0 rfl rfl (gi_in g16) dX4_drop_84 (fun H locs hP hD hS => ?_)
            have hP : va_P D vwCl [(a0, .inr (3, [.ref a_s, .ref a_past, .ref a_kept, .int zisKept_32, .int zpasts_32, .ref a_text, .int ztyped_32, .ref a_measure, .int zmost1_32, .int zmost3_32, .int zmost5_32, .ref a_chosen, .ref a_ways, .int zspot_32, .int zreason_32, .int zplaces_32, .ref a_owners, .ref a_ranks, .ref a_sets, .ref a_toldAt, .ref a_line])), (a_s, .inl (cI, 37, .inl (upd zs_32 (Int32.toNatClampNeg (1 + x3_32)) (zs_32 (Int32.toNatClampNeg (1 + q11)))))), (a_past, .inl (cI, 148, .inl zpast_32))] H := hP
            have hD : va_D A [(a0, .inr (3, [.ref a_s, .ref a_past, .ref a_kept, .int zisKept_32, .int zpasts_32, .ref a_text, .int ztyped_32, .ref a_measure, .int zmost1_32, .int zmost3_32, .int zmost5_32, .ref a_chosen, .ref a_ways, .int zspot_32, .int zreason_32, .int zplaces_32, .ref a_owners, .ref a_ranks, .ref a_sets, .ref a_toldAt, .ref a_line])), (a_s, .inl (cI, 37, .inl (upd zs_32 (Int32.toNatClampNeg (1 + x3_32)) (zs_32 (Int32.toNatClampNeg (1 + q11)))))), (a_past, .inl (cI, 148, .inl zpast_32))] := hD
            refine lv_aload_n hx hb dX4_drop_85 rfl (lv_at hl 2 rfl) ?_
            refine va_get (D := D) (ci := 3) (v := .ref a_s) (C := RX4) (T := TX4) (N := 21) hx hb hts inG4 hown hK hP 0 rfl rfl 0 (by decide) (hts _ wd2_152) (fun _ h9 => h9) rfl dX4_drop_86 ?_
            refine lv_bipush (v := 13) hx hb dX4_drop_89 (by decide) ?_
            refine lv_iload_n hx hb dX4_drop_91 rfl (lv_at hl 5 rfl) ?_
            refine lv_iadd hx hb dX4_drop_92 ?_
            refine lv_aload_n hx hb dX4_drop_93 rfl (lv_at hl 2 rfl) ?_
            refine va_get (D := D) (ci := 3) (v := .ref a_s) (C := RX4) (T := TX4) (N := 21) hx hb hts inG4 hown hK hP 0 rfl rfl 0 (by decide) (hts _ wd2_152) (fun _ h9 => h9) rfl dX4_drop_94 ?_
            refine lv_bipush (v := 13) hx hb dX4_drop_97 (by decide) ?_
            refine lv_iload hx hb dX4_drop_99 (lv_at hl 1 rfl) ?_
            refine lv_iadd hx hb dX4_drop_101 ?_
            obtain ⟨g17, h⟩ := chk_s h
            refine va_iald hx hb hK hP 1 0 rfl rfl (gi_in g17) dX4_drop_102 ?_
            obtain ⟨g18, h⟩ := chk_s h
            refine va_iast hx hb hK hP hD hS 1 0 rfl rfl (gi_in g18) dX4_drop_103 (fun H locs hP hD hS => ?_)
            have hP : va_P D vwCl [(a0, .inr (3, [.ref a_s, .ref a_past, .ref a_kept, .int zisKept_32, .int zpasts_32, .ref a_text, .int ztyped_32, .ref a_measure, .int zmost1_32, .int zmost3_32, .int zmost5_32, .ref a_chosen, .ref a_ways, .int zspot_32, .int zreason_32, .int zplaces_32, .ref a_owners, .ref a_ranks, .ref a_sets, .ref a_toldAt, .ref a_line])), (a_s, .inl (cI, 37, .inl (upd (upd zs_32 (Int32.toNatClampNeg (1 + x3_32)) (zs_32 (Int32.toNatClampNeg (1 + q11)))) (Int32.toNatClampNeg (13 + x3_32)) ((upd zs_32 (Int32.toNatClampNeg (1 + x3_32)) (zs_32 (Int32.toNatClampNeg (1 + q11)))) (Int32.toNatClampNeg (13 + q11)))))), (a_past, .inl (cI, 148, .inl zpast_32))] H := hP
            have hD : va_D A [(a0, .inr (3, [.ref a_s, .ref a_past, .ref a_kept, .int zisKept_32, .int zpasts_32, .ref a_text, .int ztyped_32, .ref a_measure, .int zmost1_32, .int zmost3_32, .int zmost5_32, .ref a_chosen, .ref a_ways, .int zspot_32, .int zreason_32, .int zplaces_32, .ref a_owners, .ref a_ranks, .ref a_sets, .ref a_toldAt, .ref a_line])), (a_s, .inl (cI, 37, .inl (upd (upd zs_32 (Int32.toNatClampNeg (1 + x3_32)) (zs_32 (Int32.toNatClampNeg (1 + q11)))) (Int32.toNatClampNeg (13 + x3_32)) ((upd zs_32 (Int32.toNatClampNeg (1 + x3_32)) (zs_32 (Int32.toNatClampNeg (1 + q11)))) (Int32.toNatClampNeg (13 + q11)))))), (a_past, .inl (cI, 148, .inl zpast_32))] := hD
            refine lv_aload_n hx hb dX4_drop_104 rfl (lv_at hl 2 rfl) ?_
            refine va_get (D := D) (ci := 3) (v := .ref a_s) (C := RX4) (T := TX4) (N := 21) hx hb hts inG4 hown hK hP 0 rfl rfl 0 (by decide) (hts _ wd2_152) (fun _ h9 => h9) rfl dX4_drop_105 ?_
            refine lv_bipush (v := 25) hx hb dX4_drop_108 (by decide) ?_
            refine lv_iload_n hx hb dX4_drop_110 rfl (lv_at hl 5 rfl) ?_
            refine lv_iadd hx hb dX4_drop_111 ?_
            refine lv_iload hx hb dX4_drop_112 (lv_at hl 0 rfl) ?_
            refine lv_iload_n hx hb dX4_drop_114 rfl (lv_at hl 4 rfl) ?_
            refine lv_iand hx hb dX4_drop_115 ?_
            refine lv_iload hx hb dX4_drop_116 (lv_at hl 0 rfl) ?_
            refine lv_iconst (v := 1) hx hb dX4_drop_118 (by decide) ?_
            refine lv_ishr hx hb dX4_drop_119 ?_
            refine lv_iload_n hx hb dX4_drop_120 rfl (lv_at hl 4 rfl) ?_
            refine lv_iconst (v := (-1)) hx hb dX4_drop_121 (by decide) ?_
            refine lv_ixor hx hb dX4_drop_122 ?_
            refine lv_iand hx hb dX4_drop_123 ?_
            refine lv_ior hx hb dX4_drop_124 ?_
            obtain ⟨g19, h⟩ := chk_s h
            refine va_iast hx hb hK hP hD hS 1 0 rfl rfl (gi_in g19) dX4_drop_125 (fun H locs hP hD hS => ?_)
            have hP : va_P D vwCl [(a0, .inr (3, [.ref a_s, .ref a_past, .ref a_kept, .int zisKept_32, .int zpasts_32, .ref a_text, .int ztyped_32, .ref a_measure, .int zmost1_32, .int zmost3_32, .int zmost5_32, .ref a_chosen, .ref a_ways, .int zspot_32, .int zreason_32, .int zplaces_32, .ref a_owners, .ref a_ranks, .ref a_sets, .ref a_toldAt, .ref a_line])), (a_s, .inl (cI, 37, .inl (upd (upd (upd zs_32 (Int32.toNatClampNeg (1 + x3_32)) (zs_32 (Int32.toNatClampNeg (1 + q11)))) (Int32.toNatClampNeg (13 + x3_32)) ((upd zs_32 (Int32.toNatClampNeg (1 + x3_32)) (zs_32 (Int32.toNatClampNeg (1 + q11)))) (Int32.toNatClampNeg (13 + q11)))) (Int32.toNatClampNeg (25 + x3_32)) (((zs_32 (Int32.toNatClampNeg (25 + q11))) &&& x2_32) ||| (((zs_32 (Int32.toNatClampNeg (25 + q11))) >>> (1 &&& 31)) &&& (x2_32 ^^^ (-1))))))), (a_past, .inl (cI, 148, .inl zpast_32))] H := hP
            have hD : va_D A [(a0, .inr (3, [.ref a_s, .ref a_past, .ref a_kept, .int zisKept_32, .int zpasts_32, .ref a_text, .int ztyped_32, .ref a_measure, .int zmost1_32, .int zmost3_32, .int zmost5_32, .ref a_chosen, .ref a_ways, .int zspot_32, .int zreason_32, .int zplaces_32, .ref a_owners, .ref a_ranks, .ref a_sets, .ref a_toldAt, .ref a_line])), (a_s, .inl (cI, 37, .inl (upd (upd (upd zs_32 (Int32.toNatClampNeg (1 + x3_32)) (zs_32 (Int32.toNatClampNeg (1 + q11)))) (Int32.toNatClampNeg (13 + x3_32)) ((upd zs_32 (Int32.toNatClampNeg (1 + x3_32)) (zs_32 (Int32.toNatClampNeg (1 + q11)))) (Int32.toNatClampNeg (13 + q11)))) (Int32.toNatClampNeg (25 + x3_32)) (((zs_32 (Int32.toNatClampNeg (25 + q11))) &&& x2_32) ||| (((zs_32 (Int32.toNatClampNeg (25 + q11))) >>> (1 &&& 31)) &&& (x2_32 ^^^ (-1))))))), (a_past, .inl (cI, 148, .inl zpast_32))] := hD
            refine lv_iinc (v := x3_32 + 1) (lv' := [(3, .int (x3_32 + 1)), (5, .int (zs_32 (Int32.toNatClampNeg (25 + q11)))), (4, .int q11), (0, .ref a0), (1, .int x1_32), (2, .int x2_32)]) hx hb dX4_drop_126 hl (k := 5) rfl rfl (by decide) rfl (fun ls hl => ?_)
            refine lv_goto (tgt := 32) hx hb dX4_drop_129 (by decide) ?_
            exact ih_32 (x3_32 + 1) (upd (upd (upd zs_32 (Int32.toNatClampNeg (1 + x3_32)) (zs_32 (Int32.toNatClampNeg (1 + q11)))) (Int32.toNatClampNeg (13 + x3_32)) ((upd zs_32 (Int32.toNatClampNeg (1 + x3_32)) (zs_32 (Int32.toNatClampNeg (1 + q11)))) (Int32.toNatClampNeg (13 + q11)))) (Int32.toNatClampNeg (25 + x3_32)) (((zs_32 (Int32.toNatClampNeg (25 + q11))) &&& x2_32) ||| (((zs_32 (Int32.toNatClampNeg (25 + q11))) >>> (1 &&& 31)) &&& (x2_32 ^^^ (-1))))) _ h J_32 _ _ _ (lv_sub hl [3, 4, 5, 0] rfl) hP hD hS
          clear h
          have h := hb20
          clear hb20
          refine lv_icmp_ge (tgt := 51) hx hb dX4_drop_44 (by decide) (fun c10 => ?_) (fun c10 => ?_)
          · have h := itT h c10
            refine lv_iload_n hx hb dX4_drop_51 rfl (lv_at hl 3 rfl) ?_
            refine lv_iconst (v := 1) hx hb dX4_drop_52 (by decide) ?_
            refine lv_iadd hx hb dX4_drop_53 ?_
            obtain rfl := Option.some.inj h
            exact J12 _ _ _ (lv_sub hl [0, 1, 2, 3] rfl) hP hD hS
          · have h := itF h c10
            refine lv_iload_n hx hb dX4_drop_47 rfl (lv_at hl 3 rfl) ?_
            refine lv_goto (tgt := 54) hx hb dX4_drop_48 (by decide) ?_
            obtain rfl := Option.some.inj h
            exact J12 _ _ _ (lv_sub hl [0, 1, 2, 3] rfl) hP hD hS
    obtain ⟨q22, hb24, h⟩ := bd h
    refine L_32 x1 (((1 : Int32) <<< (x1 &&& 31)) - 1) q4.1 zisKept q4.2 ztyped zmost1 zmost3 zmost5 zspot zreason zplaces N 0 (upd zs (Int32.toNatClampNeg 0) ((zs (Int32.toNatClampNeg 0)) - 1)) q22 hb24 ?_ _ _ _ (lv_sub hl [2, 3, 1, 0] rfl) hP hD hS
    intro ls H locs hl hP hD hS
    refine lv_aload_n hx hb dX4_drop_132 rfl (lv_at hl 0 rfl) ?_
    refine va_get (D := D) (ci := 3) (v := .ref a_s) (C := RX4) (T := TX4) (N := 21) hx hb hts inG4 hown hK hP 0 rfl rfl 0 (by decide) (hts _ wd2_152) (fun _ h9 => h9) rfl dX4_drop_133 ?_
    refine lv_iconst (v := 0) hx hb dX4_drop_136 (by decide) ?_
    obtain ⟨g23, h⟩ := chk_s h
    refine va_iald hx hb hK hP 1 0 rfl rfl (gi_in g23) dX4_drop_137 ?_
    obtain rfl := Option.some.inj h
    exact hret _ _ _ _ _ rfl hP hD hS dX4_drop_138
  · have h := itT h c3
    refine lv_iconst (v := (-1)) hx hb dX4_drop_8 (by decide) ?_
    obtain rfl := Option.some.inj h
    exact hret _ _ _ _ _ rfl hP hD hS dX4_drop_9
def f_X4_withRank_L4 (N : Nat) (x1_4 : Int32) (zs_4 : Nat → Int32) : Nat → Int32 → Int32 → Option (Int32)
  | 0, _, _ => none
  | n_4 + 1, x2_4, x3_4 =>
    chk (gi 0 37) (if (zs_4 (Int32.toNatClampNeg 0)) ≤ x3_4 then (some x2_4) else (chk (gi (13 + x3_4) 37) (Option.bind (α := Int32) (if (zs_4 (Int32.toNatClampNeg (13 + x3_4))) = x1_4 then (some (1)) else (some (0))) (fun q5 => f_X4_withRank_L4 N x1_4 zs_4 n_4 (x2_4 + q5) (x3_4 + 1)))))
def f_X4_withRank (N : Nat) (x1 : Int32) (zs : Nat → Int32) : Option (Int32) :=
    Option.bind (f_X4_withRank_L4 N x1 zs N 0 0) (fun q10 => some q10)
set_option maxHeartbeats 4000000 in
set_option maxRecDepth 100000 in
theorem c_X4_withRank (l : Launch) (D : va_G) (cI cC cH : ClassId) (a0 : Nat) (a_s : Nat) (a_past : Nat) (a_kept : Nat) (a_text : Nat) (a_measure : Nat) (a_chosen : Nat) (a_ways : Nat) (a_owners : Nat) (a_ranks : Nat) (a_sets : Nat) (a_toldAt : Nat) (a_line : Nat) (N : Nat) (x1 : Int32) (zs : Nat → Int32) (zisKept : Int32) (zpasts : Int32) (ztyped : Int32) (zmost1 : Int32) (zmost3 : Int32) (zmost5 : Int32) (zspot : Int32) (zreason : Int32) (zplaces : Int32) (y : Int32) (h : f_X4_withRank N x1 zs = some y) : CTi l yX4_withRank cX4_withRank 4 (some .int) 0 0 D (tyL cI cC cH) [.ref a0, .int x1] [(a0, .inr (3, [.ref a_s, .ref a_past, .ref a_kept, .int zisKept, .int zpasts, .ref a_text, .int ztyped, .ref a_measure, .int zmost1, .int zmost3, .int zmost5, .ref a_chosen, .ref a_ways, .int zspot, .int zreason, .int zplaces, .ref a_owners, .ref a_ranks, .ref a_sets, .ref a_toldAt, .ref a_line])), (a_s, .inl (cI, 37, .inl zs))] [(a0, .inr (3, [.ref a_s, .ref a_past, .ref a_kept, .int zisKept, .int zpasts, .ref a_text, .int ztyped, .ref a_measure, .int zmost1, .int zmost3, .int zmost5, .ref a_chosen, .ref a_ways, .int zspot, .int zreason, .int zplaces, .ref a_owners, .ref a_ranks, .ref a_sets, .ref a_toldAt, .ref a_line])), (a_s, .inl (cI, 37, .inl zs))] y := by
  unfold f_X4_withRank at h
  refine ctI (by decide) (Nat.le_of_ble_eq_true rfl) ?_
  intro p e s m args below meth c A Q ls F hret hP hD hS hl
  have hx := F.1
  have hb := F.2.1
  have hown : s.vm.findClass RX4 = some m.cls := F.2.2.2.1
  have hts := F.2.2.2.2.1
  have hN := F.2.2.2.2.2.1
  have hK := F.2.2.2.2.2.2.1
  have hl : lv_has ls 4 [(0, .ref a0), (1, .int x1)] := hl
  refine lv_iconst (v := 0) hx hb dX4_withRank_0 (by decide) ?_
  refine lv_istore_n (lv' := [(2, .int 0), (0, .ref a0), (1, .int x1)]) hx hb dX4_withRank_1 rfl hl (by decide) rfl (fun ls hl => ?_)
  refine lv_iconst (v := 0) hx hb dX4_withRank_2 (by decide) ?_
  refine lv_istore_n (lv' := [(3, .int 0), (2, .int 0), (0, .ref a0), (1, .int x1)]) hx hb dX4_withRank_3 rfl hl (by decide) rfl (fun ls hl => ?_)
  have L_4 : ∀ (x1_4 : Int32) (zs_4 : Nat → Int32) (zisKept_4 : Int32) (zpasts_4 : Int32) (ztyped_4 : Int32) (zmost1_4 : Int32) (zmost3_4 : Int32) (zmost5_4 : Int32) (zspot_4 : Int32) (zreason_4 : Int32) (zplaces_4 : Int32), ∀ (n_4 : Nat) (x2_4 : Int32) (x3_4 : Int32) (q9 : (Int32)), f_X4_withRank_L4 N x1_4 zs_4 n_4 x2_4 x3_4 = some q9 → (∀ (ls : Array Slot) (H : Heap) (locs : List Loc), lv_has ls 4 [(2, .int q9)] → va_P D vwCl [(a0, .inr (3, [.ref a_s, .ref a_past, .ref a_kept, .int zisKept_4, .int zpasts_4, .ref a_text, .int ztyped_4, .ref a_measure, .int zmost1_4, .int zmost3_4, .int zmost5_4, .ref a_chosen, .ref a_ways, .int zspot_4, .int zreason_4, .int zplaces_4, .ref a_owners, .ref a_ranks, .ref a_sets, .ref a_toldAt, .ref a_line])), (a_s, .inl (cI, 37, .inl zs_4))] H → va_D A [(a0, .inr (3, [.ref a_s, .ref a_past, .ref a_kept, .int zisKept_4, .int zpasts_4, .ref a_text, .int ztyped_4, .ref a_measure, .int zmost1_4, .int zmost3_4, .int zmost5_4, .ref a_chosen, .ref a_ways, .int zspot_4, .int zreason_4, .int zplaces_4, .ref a_owners, .ref a_ranks, .ref a_sets, .ref a_toldAt, .ref a_line])), (a_s, .inl (cI, 37, .inl zs_4))] → va_S A s.heap H locs → W p l e (rmm 0 0) s m args below meth c H locs 0 0 Q (F0 m 41 ls [])) → ∀ (ls : Array Slot) (H : Heap) (locs : List Loc), lv_has ls 4 [(0, .ref a0), (1, .int x1_4), (2, .int x2_4), (3, .int x3_4)] → va_P D vwCl [(a0, .inr (3, [.ref a_s, .ref a_past, .ref a_kept, .int zisKept_4, .int zpasts_4, .ref a_text, .int ztyped_4, .ref a_measure, .int zmost1_4, .int zmost3_4, .int zmost5_4, .ref a_chosen, .ref a_ways, .int zspot_4, .int zreason_4, .int zplaces_4, .ref a_owners, .ref a_ranks, .ref a_sets, .ref a_toldAt, .ref a_line])), (a_s, .inl (cI, 37, .inl zs_4))] H → va_D A [(a0, .inr (3, [.ref a_s, .ref a_past, .ref a_kept, .int zisKept_4, .int zpasts_4, .ref a_text, .int ztyped_4, .ref a_measure, .int zmost1_4, .int zmost3_4, .int zmost5_4, .ref a_chosen, .ref a_ways, .int zspot_4, .int zreason_4, .int zplaces_4, .ref a_owners, .ref a_ranks, .ref a_sets, .ref a_toldAt, .ref a_line])), (a_s, .inl (cI, 37, .inl zs_4))] → va_S A s.heap H locs → W p l e (rmm 0 0) s m args below meth c H locs 0 0 Q (F0 m 4 ls []) := by
    intro x1_4 zs_4 zisKept_4 zpasts_4 ztyped_4 zmost1_4 zmost3_4 zmost5_4 zspot_4 zreason_4 zplaces_4 n_4
    induction n_4 with
    | zero => intro x2_4 x3_4 q9 h; exact no_s h
    | succ n_4 ih_4 =>
      intro x2_4 x3_4 q9 h J_4 ls H locs hl hP hD hS
      rw [f_X4_withRank_L4] at h
      refine lv_iload_n hx hb dX4_withRank_4 rfl (lv_at hl 3 rfl) ?_
      refine lv_aload_n hx hb dX4_withRank_5 rfl (lv_at hl 0 rfl) ?_
      refine va_get (D := D) (ci := 3) (v := .ref a_s) (C := RX4) (T := TX4) (N := 21) hx hb hts inG4 hown hK hP 0 rfl rfl 0 (by decide) (hts _ wd2_152) (fun _ h9 => h9) rfl dX4_withRank_6 ?_
      refine lv_iconst (v := 0) hx hb dX4_withRank_9 (by decide) ?_
      obtain ⟨g1, h⟩ := chk_s h
      refine va_iald hx hb hK hP 1 0 rfl rfl (gi_in g1) dX4_withRank_10 ?_
      refine lv_icmp_ge (tgt := 41) hx hb dX4_withRank_11 (by decide) (fun c2 => ?_) (fun c2 => ?_)
      · have h := itT h c2
        obtain rfl := Option.some.inj h
        exact J_4 _ _ _ (lv_sub hl [2] rfl) hP hD hS
      · have h := itF h c2
        refine lv_iload_n hx hb dX4_withRank_14 rfl (lv_at hl 2 rfl) ?_
        refine lv_aload_n hx hb dX4_withRank_15 rfl (lv_at hl 0 rfl) ?_
        refine va_get (D := D) (ci := 3) (v := .ref a_s) (C := RX4) (T := TX4) (N := 21) hx hb hts inG4 hown hK hP 0 rfl rfl 0 (by decide) (hts _ wd2_152) (fun _ h9 => h9) rfl dX4_withRank_16 ?_
        refine lv_bipush (v := 13) hx hb dX4_withRank_19 (by decide) ?_
        refine lv_iload_n hx hb dX4_withRank_21 rfl (lv_at hl 3 rfl) ?_
        refine lv_iadd hx hb dX4_withRank_22 ?_
        obtain ⟨g3, h⟩ := chk_s h
        refine va_iald hx hb hK hP 1 0 rfl rfl (gi_in g3) dX4_withRank_23 ?_
        refine lv_iload_n hx hb dX4_withRank_24 rfl (lv_at hl 1 rfl) ?_
        obtain ⟨q5, hb8, h⟩ := bd h
        have J6 : ∀ (ls : Array Slot) (H : Heap) (locs : List Loc), lv_has ls 4 [(0, .ref a0), (1, .int x1_4), (3, .int x3_4)] → va_P D vwCl [(a0, .inr (3, [.ref a_s, .ref a_past, .ref a_kept, .int zisKept_4, .int zpasts_4, .ref a_text, .int ztyped_4, .ref a_measure, .int zmost1_4, .int zmost3_4, .int zmost5_4, .ref a_chosen, .ref a_ways, .int zspot_4, .int zreason_4, .int zplaces_4, .ref a_owners, .ref a_ranks, .ref a_sets, .ref a_toldAt, .ref a_line])), (a_s, .inl (cI, 37, .inl zs_4))] H → va_D A [(a0, .inr (3, [.ref a_s, .ref a_past, .ref a_kept, .int zisKept_4, .int zpasts_4, .ref a_text, .int ztyped_4, .ref a_measure, .int zmost1_4, .int zmost3_4, .int zmost5_4, .ref a_chosen, .ref a_ways, .int zspot_4, .int zreason_4, .int zplaces_4, .ref a_owners, .ref a_ranks, .ref a_sets, .ref a_toldAt, .ref a_line])), (a_s, .inl (cI, 37, .inl zs_4))] → va_S A s.heap H locs → W p l e (rmm 0 0) s m args below meth c H locs 0 0 Q (F0 m 33 ls [.int q5, .int x2_4]) := by
          intro ls H locs hl hP hD hS
          refine lv_iadd hx hb dX4_withRank_33 ?_
          refine lv_istore_n (lv' := [(2, .int (x2_4 + q5)), (0, .ref a0), (1, .int x1_4), (3, .int x3_4)]) hx hb dX4_withRank_34 rfl hl (by decide) rfl (fun ls hl => ?_)
          refine lv_iinc (v := x3_4 + 1) (lv' := [(3, .int (x3_4 + 1)), (2, .int (x2_4 + q5)), (0, .ref a0), (1, .int x1_4)]) hx hb dX4_withRank_35 hl (k := 3) rfl rfl (by decide) rfl (fun ls hl => ?_)
          refine lv_goto (tgt := 4) hx hb dX4_withRank_38 (by decide) ?_
          exact ih_4 (x2_4 + q5) (x3_4 + 1) _ h J_4 _ _ _ (lv_sub hl [2, 3, 1, 0] rfl) hP hD hS
        clear h
        have h := hb8
        clear hb8
        refine lv_icmp_ne (tgt := 32) hx hb dX4_withRank_25 (by decide) (fun c4 => ?_) (fun c4 => ?_)
        · have h := itF h c4
          refine lv_iconst (v := 0) hx hb dX4_withRank_32 (by decide) ?_
          obtain rfl := Option.some.inj h
          exact J6 _ _ _ (lv_sub hl [0, 1, 3] rfl) hP hD hS
        · have h := itT h c4
          refine lv_iconst (v := 1) hx hb dX4_withRank_28 (by decide) ?_
          refine lv_goto (tgt := 33) hx hb dX4_withRank_29 (by decide) ?_
          obtain rfl := Option.some.inj h
          exact J6 _ _ _ (lv_sub hl [0, 1, 3] rfl) hP hD hS
  obtain ⟨q10, hb11, h⟩ := bd h
  refine L_4 x1 zs zisKept zpasts ztyped zmost1 zmost3 zmost5 zspot zreason zplaces N 0 0 q10 hb11 ?_ _ _ _ (lv_sub hl [2, 3, 1, 0] rfl) hP hD hS
  intro ls H locs hl hP hD hS
  refine lv_iload_n hx hb dX4_withRank_41 rfl (lv_at hl 0 rfl) ?_
  obtain rfl := Option.some.inj h
  exact hret _ _ _ _ _ rfl hP hD hS dX4_withRank_42
def f_X4_ahead (N : Nat) (x1 : Int32) (x2 : Int32) (zmost1 : Int32) (zmost3 : Int32) (zmost5 : Int32) : Option (Int32) :=
    if x2 = 1000000 then (some 1000000) else (Option.bind (α := Int32) (if 4 ≤ x1 then (some (0)) else (some ((x2 / 13) - (x2 / 13) / 13 * 13))) (fun q3 => Option.bind (α := Int32) (if 2 ≤ x1 then (some (0)) else (some (x2 - x2 / 13 * 13))) (fun q7 => Option.bind (α := Int32 × Int32) (if x1 = 1 then (if zmost1 ≤ q7 then (if x1 = 1 then (some (0, x1 - x1 / 2 * 2)) else (some (q7, x1 - x1 / 2 * 2))) else (some (q7 + 1, 0))) else (if x1 = 1 then (some (0, x1 - x1 / 2 * 2)) else (some (q7, x1 - x1 / 2 * 2)))) (fun q11 => Option.bind (α := Int32 × Int32) (if 4 ≤ x1 then (if 4 ≤ x1 then (some (q3, q11.2)) else (if q11.2 = 1 then (some (0, q11.2)) else (some (q3, q11.2)))) else (if q11.2 = 1 then (if zmost3 ≤ q3 then (if 4 ≤ x1 then (some (q3, q11.2)) else (if q11.2 = 1 then (some (0, q11.2)) else (some (q3, q11.2)))) else (some (q3 + 1, 0))) else (if 4 ≤ x1 then (some (q3, q11.2)) else (if q11.2 = 1 then (some (0, q11.2)) else (some (q3, q11.2)))))) (fun q18 => if ((x2 / 169) + q18.2) ≤ zmost5 then (some (((169 * ((x2 / 169) + q18.2)) + (13 * q18.1)) + q11.1)) else (some 1000000))))))
set_option maxHeartbeats 4000000 in
set_option maxRecDepth 100000 in
theorem c_X4_ahead (l : Launch) (D : va_G) (cI cC cH : ClassId) (a0 : Nat) (a_s : Nat) (a_past : Nat) (a_kept : Nat) (a_text : Nat) (a_measure : Nat) (a_chosen : Nat) (a_ways : Nat) (a_owners : Nat) (a_ranks : Nat) (a_sets : Nat) (a_toldAt : Nat) (a_line : Nat) (N : Nat) (x1 : Int32) (x2 : Int32) (zisKept : Int32) (zpasts : Int32) (ztyped : Int32) (zmost1 : Int32) (zmost3 : Int32) (zmost5 : Int32) (zspot : Int32) (zreason : Int32) (zplaces : Int32) (y : Int32) (h : f_X4_ahead N x1 x2 zmost1 zmost3 zmost5 = some y) : CTi l yX4_ahead cX4_ahead 7 (some .int) 0 0 D (tyL cI cC cH) [.ref a0, .int x1, .int x2] [(a0, .inr (3, [.ref a_s, .ref a_past, .ref a_kept, .int zisKept, .int zpasts, .ref a_text, .int ztyped, .ref a_measure, .int zmost1, .int zmost3, .int zmost5, .ref a_chosen, .ref a_ways, .int zspot, .int zreason, .int zplaces, .ref a_owners, .ref a_ranks, .ref a_sets, .ref a_toldAt, .ref a_line]))] [(a0, .inr (3, [.ref a_s, .ref a_past, .ref a_kept, .int zisKept, .int zpasts, .ref a_text, .int ztyped, .ref a_measure, .int zmost1, .int zmost3, .int zmost5, .ref a_chosen, .ref a_ways, .int zspot, .int zreason, .int zplaces, .ref a_owners, .ref a_ranks, .ref a_sets, .ref a_toldAt, .ref a_line]))] y := by
  unfold f_X4_ahead at h
  refine ctI (by decide) (Nat.le_of_ble_eq_true rfl) ?_
  intro p e s m args below meth c A Q ls F hret hP hD hS hl
  have hx := F.1
  have hb := F.2.1
  have hown : s.vm.findClass RX4 = some m.cls := F.2.2.2.1
  have hts := F.2.2.2.2.1
  have hN := F.2.2.2.2.2.1
  have hK := F.2.2.2.2.2.2.1
  have hl : lv_has ls 7 [(0, .ref a0), (1, .int x1), (2, .int x2)] := hl
  refine lv_iload_n hx hb dX4_ahead_0 rfl (lv_at hl 2 rfl) ?_
  refine lv_ldc (v := 1000000) hx hb hown (hts _ wd3_34) dX4_ahead_1 ?_
  refine lv_icmp_ne (tgt := 9) hx hb dX4_ahead_3 (by decide) (fun c1 => ?_) (fun c1 => ?_)
  · have h := itF h c1
    refine lv_iload_n hx hb dX4_ahead_9 rfl (lv_at hl 2 rfl) ?_
    refine lv_sipush (v := 169) hx hb dX4_ahead_10 (by decide) ?_
    refine lv_idiv hx hb dX4_ahead_13 (by decide) ?_
    refine lv_istore_n (lv' := [(3, .int (x2 / 169)), (0, .ref a0), (1, .int x1), (2, .int x2)]) hx hb dX4_ahead_14 rfl hl (by decide) rfl (fun ls hl => ?_)
    refine lv_iload_n hx hb dX4_ahead_15 rfl (lv_at hl 2 rfl) ?_
    refine lv_iconst (v := 4) hx hb dX4_ahead_16 (by decide) ?_
    obtain ⟨q3, hb33, h⟩ := bd h
    have J4 : ∀ (ls : Array Slot) (H : Heap) (locs : List Loc), lv_has ls 7 [(0, .ref a0), (1, .int x1), (2, .int x2), (3, .int (x2 / 169))] → va_P D vwCl [(a0, .inr (3, [.ref a_s, .ref a_past, .ref a_kept, .int zisKept, .int zpasts, .ref a_text, .int ztyped, .ref a_measure, .int zmost1, .int zmost3, .int zmost5, .ref a_chosen, .ref a_ways, .int zspot, .int zreason, .int zplaces, .ref a_owners, .ref a_ranks, .ref a_sets, .ref a_toldAt, .ref a_line]))] H → va_D A [(a0, .inr (3, [.ref a_s, .ref a_past, .ref a_kept, .int zisKept, .int zpasts, .ref a_text, .int ztyped, .ref a_measure, .int zmost1, .int zmost3, .int zmost5, .ref a_chosen, .ref a_ways, .int zspot, .int zreason, .int zplaces, .ref a_owners, .ref a_ranks, .ref a_sets, .ref a_toldAt, .ref a_line]))] → va_S A s.heap H locs → W p l e (rmm 0 0) s m args below meth c H locs 0 0 Q (F0 m 31 ls [.int q3]) := by
      intro ls H locs hl hP hD hS
      refine lv_istore (lv' := [(4, .int q3), (0, .ref a0), (1, .int x1), (2, .int x2), (3, .int (x2 / 169))]) hx hb dX4_ahead_31 hl (by decide) rfl (fun ls hl => ?_)
      refine lv_iload_n hx hb dX4_ahead_33 rfl (lv_at hl 2 rfl) ?_
      refine lv_iconst (v := 2) hx hb dX4_ahead_34 (by decide) ?_
      obtain ⟨q7, hb32, h⟩ := bd h
      have J8 : ∀ (ls : Array Slot) (H : Heap) (locs : List Loc), lv_has ls 7 [(0, .ref a0), (1, .int x1), (3, .int (x2 / 169)), (4, .int q3)] → va_P D vwCl [(a0, .inr (3, [.ref a_s, .ref a_past, .ref a_kept, .int zisKept, .int zpasts, .ref a_text, .int ztyped, .ref a_measure, .int zmost1, .int zmost3, .int zmost5, .ref a_chosen, .ref a_ways, .int zspot, .int zreason, .int zplaces, .ref a_owners, .ref a_ranks, .ref a_sets, .ref a_toldAt, .ref a_line]))] H → va_D A [(a0, .inr (3, [.ref a_s, .ref a_past, .ref a_kept, .int zisKept, .int zpasts, .ref a_text, .int ztyped, .ref a_measure, .int zmost1, .int zmost3, .int zmost5, .ref a_chosen, .ref a_ways, .int zspot, .int zreason, .int zplaces, .ref a_owners, .ref a_ranks, .ref a_sets, .ref a_toldAt, .ref a_line]))] → va_S A s.heap H locs → W p l e (rmm 0 0) s m args below meth c H locs 0 0 Q (F0 m 46 ls [.int q7]) := by
        intro ls H locs hl hP hD hS
        refine lv_istore (lv' := [(5, .int q7), (0, .ref a0), (1, .int x1), (3, .int (x2 / 169)), (4, .int q3)]) hx hb dX4_ahead_46 hl (by decide) rfl (fun ls hl => ?_)
        refine lv_iload_n hx hb dX4_ahead_48 rfl (lv_at hl 2 rfl) ?_
        refine lv_iconst (v := 2) hx hb dX4_ahead_49 (by decide) ?_
        refine lv_irem hx hb dX4_ahead_50 (by decide) ?_
        refine lv_istore (lv' := [(6, .int (x1 - x1 / 2 * 2)), (5, .int q7), (0, .ref a0), (1, .int x1), (3, .int (x2 / 169)), (4, .int q3)]) hx hb dX4_ahead_51 hl (by decide) rfl (fun ls hl => ?_)
        refine lv_iload_n hx hb dX4_ahead_53 rfl (lv_at hl 3 rfl) ?_
        refine lv_iconst (v := 1) hx hb dX4_ahead_54 (by decide) ?_
        obtain ⟨q11, hb31, h⟩ := bd h
        have J12 : ∀ (ls : Array Slot) (H : Heap) (locs : List Loc), lv_has ls 7 [(0, .ref a0), (1, .int x1), (3, .int (x2 / 169)), (4, .int q3), (5, .int q11.1), (6, .int q11.2)] → va_P D vwCl [(a0, .inr (3, [.ref a_s, .ref a_past, .ref a_kept, .int zisKept, .int zpasts, .ref a_text, .int ztyped, .ref a_measure, .int zmost1, .int zmost3, .int zmost5, .ref a_chosen, .ref a_ways, .int zspot, .int zreason, .int zplaces, .ref a_owners, .ref a_ranks, .ref a_sets, .ref a_toldAt, .ref a_line]))] H → va_D A [(a0, .inr (3, [.ref a_s, .ref a_past, .ref a_kept, .int zisKept, .int zpasts, .ref a_text, .int ztyped, .ref a_measure, .int zmost1, .int zmost3, .int zmost5, .ref a_chosen, .ref a_ways, .int zspot, .int zreason, .int zplaces, .ref a_owners, .ref a_ranks, .ref a_sets, .ref a_toldAt, .ref a_line]))] → va_S A s.heap H locs → W p l e (rmm 0 0) s m args below meth c H locs 0 0 Q (F0 m 84 ls []) := by
          intro ls H locs hl hP hD hS
          refine lv_iload_n hx hb dX4_ahead_84 rfl (lv_at hl 1 rfl) ?_
          refine lv_iconst (v := 4) hx hb dX4_ahead_85 (by decide) ?_
          obtain ⟨q18, hb30, h⟩ := bd h
          have J19 : ∀ (ls : Array Slot) (H : Heap) (locs : List Loc), lv_has ls 7 [(0, .ref a0), (3, .int (x2 / 169)), (4, .int q18.1), (5, .int q11.1), (6, .int q18.2)] → va_P D vwCl [(a0, .inr (3, [.ref a_s, .ref a_past, .ref a_kept, .int zisKept, .int zpasts, .ref a_text, .int ztyped, .ref a_measure, .int zmost1, .int zmost3, .int zmost5, .ref a_chosen, .ref a_ways, .int zspot, .int zreason, .int zplaces, .ref a_owners, .ref a_ranks, .ref a_sets, .ref a_toldAt, .ref a_line]))] H → va_D A [(a0, .inr (3, [.ref a_s, .ref a_past, .ref a_kept, .int zisKept, .int zpasts, .ref a_text, .int ztyped, .ref a_measure, .int zmost1, .int zmost3, .int zmost5, .ref a_chosen, .ref a_ways, .int zspot, .int zreason, .int zplaces, .ref a_owners, .ref a_ranks, .ref a_sets, .ref a_toldAt, .ref a_line]))] → va_S A s.heap H locs → W p l e (rmm 0 0) s m args below meth c H locs 0 0 Q (F0 m 127 ls []) := by
            intro ls H locs hl hP hD hS
            refine lv_iload_n hx hb dX4_ahead_127 rfl (lv_at hl 1 rfl) ?_
            refine lv_iload hx hb dX4_ahead_128 (lv_at hl 4 rfl) ?_
            refine lv_iadd hx hb dX4_ahead_130 ?_
            refine lv_istore_n (lv' := [(3, .int ((x2 / 169) + q18.2)), (0, .ref a0), (4, .int q18.1), (5, .int q11.1), (6, .int q18.2)]) hx hb dX4_ahead_131 rfl hl (by decide) rfl (fun ls hl => ?_)
            refine lv_iload_n hx hb dX4_ahead_132 rfl (lv_at hl 0 rfl) ?_
            refine lv_aload_n hx hb dX4_ahead_133 rfl (lv_at hl 1 rfl) ?_
            refine va_get (D := D) (ci := 3) (v := .int zmost5) (C := RX4) (T := TX4) (N := 21) hx hb hts inG4 hown hK hP 0 rfl rfl 10 (by decide) (hts _ wd2_162) (fun _ h9 => h9) rfl dX4_ahead_134 ?_
            refine lv_icmp_le (tgt := 145) hx hb dX4_ahead_137 (by decide) (fun c29 => ?_) (fun c29 => ?_)
            · have h := itT h c29
              refine lv_sipush (v := 169) hx hb dX4_ahead_145 (by decide) ?_
              refine lv_iload_n hx hb dX4_ahead_148 rfl (lv_at hl 0 rfl) ?_
              refine lv_imul hx hb dX4_ahead_149 ?_
              refine lv_bipush (v := 13) hx hb dX4_ahead_150 (by decide) ?_
              refine lv_iload hx hb dX4_ahead_152 (lv_at hl 2 rfl) ?_
              refine lv_imul hx hb dX4_ahead_154 ?_
              refine lv_iadd hx hb dX4_ahead_155 ?_
              refine lv_iload hx hb dX4_ahead_156 (lv_at hl 3 rfl) ?_
              refine lv_iadd hx hb dX4_ahead_158 ?_
              obtain rfl := Option.some.inj h
              exact hret _ _ _ _ _ rfl hP hD hS dX4_ahead_159
            · have h := itF h c29
              refine lv_ldc (v := 1000000) hx hb hown (hts _ wd3_34) dX4_ahead_140 ?_
              refine lv_goto (tgt := 159) hx hb dX4_ahead_142 (by decide) ?_
              obtain rfl := Option.some.inj h
              exact hret _ _ _ _ _ rfl hP hD hS dX4_ahead_159
          clear h
          have h := hb30
          clear hb30
          refine lv_icmp_ge (tgt := 113) hx hb dX4_ahead_86 (by decide) (fun c17 => ?_) (fun c17 => ?_)
          · have h := itT h c17
            refine lv_iload_n hx hb dX4_ahead_113 rfl (lv_at hl 1 rfl) ?_
            refine lv_iconst (v := 4) hx hb dX4_ahead_114 (by decide) ?_
            refine lv_icmp_ge (tgt := 127) hx hb dX4_ahead_115 (by decide) (fun c21 => ?_) (fun c21 => ?_)
            · have h := itT h c21
              obtain rfl := Option.some.inj h
              exact J19 _ _ _ (lv_sub hl [0, 2, 3, 4, 5] rfl) hP hD hS
            · have h := itF h c21
              refine lv_iload hx hb dX4_ahead_118 (lv_at hl 5 rfl) ?_
              refine lv_iconst (v := 1) hx hb dX4_ahead_120 (by decide) ?_
              refine lv_icmp_ne (tgt := 127) hx hb dX4_ahead_121 (by decide) (fun c22 => ?_) (fun c22 => ?_)
              · have h := itF h c22
                obtain rfl := Option.some.inj h
                exact J19 _ _ _ (lv_sub hl [0, 2, 3, 4, 5] rfl) hP hD hS
              · have h := itT h c22
                refine lv_iconst (v := 0) hx hb dX4_ahead_124 (by decide) ?_
                refine lv_istore (lv' := [(4, .int 0), (0, .ref a0), (1, .int x1), (3, .int (x2 / 169)), (5, .int q11.1), (6, .int q11.2)]) hx hb dX4_ahead_125 hl (by decide) rfl (fun ls hl => ?_)
                obtain rfl := Option.some.inj h
                exact J19 _ _ _ (lv_sub hl [1, 3, 0, 4, 5] rfl) hP hD hS
          · have h := itF h c17
            refine lv_iload hx hb dX4_ahead_89 (lv_at hl 5 rfl) ?_
            refine lv_iconst (v := 1) hx hb dX4_ahead_91 (by decide) ?_
            refine lv_icmp_ne (tgt := 113) hx hb dX4_ahead_92 (by decide) (fun c23 => ?_) (fun c23 => ?_)
            · have h := itF h c23
              refine lv_iload_n hx hb dX4_ahead_113 rfl (lv_at hl 1 rfl) ?_
              refine lv_iconst (v := 4) hx hb dX4_ahead_114 (by decide) ?_
              refine lv_icmp_ge (tgt := 127) hx hb dX4_ahead_115 (by decide) (fun c24 => ?_) (fun c24 => ?_)
              · have h := itT h c24
                obtain rfl := Option.some.inj h
                exact J19 _ _ _ (lv_sub hl [0, 2, 3, 4, 5] rfl) hP hD hS
              · have h := itF h c24
                refine lv_iload hx hb dX4_ahead_118 (lv_at hl 5 rfl) ?_
                refine lv_iconst (v := 1) hx hb dX4_ahead_120 (by decide) ?_
                refine lv_icmp_ne (tgt := 127) hx hb dX4_ahead_121 (by decide) (fun c25 => ?_) (fun c25 => ?_)
                · have h := itF h c25
                  obtain rfl := Option.some.inj h
                  exact J19 _ _ _ (lv_sub hl [0, 2, 3, 4, 5] rfl) hP hD hS
                · have h := itT h c25
                  refine lv_iconst (v := 0) hx hb dX4_ahead_124 (by decide) ?_
                  refine lv_istore (lv' := [(4, .int 0), (0, .ref a0), (1, .int x1), (3, .int (x2 / 169)), (5, .int q11.1), (6, .int q11.2)]) hx hb dX4_ahead_125 hl (by decide) rfl (fun ls hl => ?_)
                  obtain rfl := Option.some.inj h
                  exact J19 _ _ _ (lv_sub hl [1, 3, 0, 4, 5] rfl) hP hD hS
            · have h := itT h c23
              refine lv_iload hx hb dX4_ahead_95 (lv_at hl 3 rfl) ?_
              refine lv_aload_n hx hb dX4_ahead_97 rfl (lv_at hl 0 rfl) ?_
              refine va_get (D := D) (ci := 3) (v := .int zmost3) (C := RX4) (T := TX4) (N := 21) hx hb hts inG4 hown hK hP 0 rfl rfl 9 (by decide) (hts _ wd2_161) (fun _ h9 => h9) rfl dX4_ahead_98 ?_
              refine lv_icmp_ge (tgt := 113) hx hb dX4_ahead_101 (by decide) (fun c26 => ?_) (fun c26 => ?_)
              · have h := itT h c26
                refine lv_iload_n hx hb dX4_ahead_113 rfl (lv_at hl 1 rfl) ?_
                refine lv_iconst (v := 4) hx hb dX4_ahead_114 (by decide) ?_
                refine lv_icmp_ge (tgt := 127) hx hb dX4_ahead_115 (by decide) (fun c27 => ?_) (fun c27 => ?_)
                · have h := itT h c27
                  obtain rfl := Option.some.inj h
                  exact J19 _ _ _ (lv_sub hl [0, 2, 3, 4, 5] rfl) hP hD hS
                · have h := itF h c27
                  refine lv_iload hx hb dX4_ahead_118 (lv_at hl 5 rfl) ?_
                  refine lv_iconst (v := 1) hx hb dX4_ahead_120 (by decide) ?_
                  refine lv_icmp_ne (tgt := 127) hx hb dX4_ahead_121 (by decide) (fun c28 => ?_) (fun c28 => ?_)
                  · have h := itF h c28
                    obtain rfl := Option.some.inj h
                    exact J19 _ _ _ (lv_sub hl [0, 2, 3, 4, 5] rfl) hP hD hS
                  · have h := itT h c28
                    refine lv_iconst (v := 0) hx hb dX4_ahead_124 (by decide) ?_
                    refine lv_istore (lv' := [(4, .int 0), (0, .ref a0), (1, .int x1), (3, .int (x2 / 169)), (5, .int q11.1), (6, .int q11.2)]) hx hb dX4_ahead_125 hl (by decide) rfl (fun ls hl => ?_)
                    obtain rfl := Option.some.inj h
                    exact J19 _ _ _ (lv_sub hl [1, 3, 0, 4, 5] rfl) hP hD hS
              · have h := itF h c26
                refine lv_iinc (v := q3 + 1) (lv' := [(4, .int (q3 + 1)), (0, .ref a0), (1, .int x1), (3, .int (x2 / 169)), (5, .int q11.1), (6, .int q11.2)]) hx hb dX4_ahead_104 hl (k := 3) rfl rfl (by decide) rfl (fun ls hl => ?_)
                refine lv_iconst (v := 0) hx hb dX4_ahead_107 (by decide) ?_
                refine lv_istore (lv' := [(6, .int 0), (4, .int (q3 + 1)), (0, .ref a0), (1, .int x1), (3, .int (x2 / 169)), (5, .int q11.1)]) hx hb dX4_ahead_108 hl (by decide) rfl (fun ls hl => ?_)
                refine lv_goto (tgt := 127) hx hb dX4_ahead_110 (by decide) ?_
                obtain rfl := Option.some.inj h
                exact J19 _ _ _ (lv_sub hl [2, 4, 1, 5, 0] rfl) hP hD hS
        clear h
        have h := hb31
        clear hb31
        refine lv_icmp_ne (tgt := 76) hx hb dX4_ahead_55 (by decide) (fun c10 => ?_) (fun c10 => ?_)
        · have h := itF h c10
          refine lv_iload_n hx hb dX4_ahead_76 rfl (lv_at hl 3 rfl) ?_
          refine lv_iconst (v := 1) hx hb dX4_ahead_77 (by decide) ?_
          refine lv_icmp_ne (tgt := 84) hx hb dX4_ahead_78 (by decide) (fun c14 => ?_) (fun c14 => ?_)
          · have h := itF h c14
            obtain rfl := Option.some.inj h
            exact J12 _ _ _ (lv_sub hl [2, 3, 4, 5, 1, 0] rfl) hP hD hS
          · have h := itT h c14
            refine lv_iconst (v := 0) hx hb dX4_ahead_81 (by decide) ?_
            refine lv_istore (lv' := [(5, .int 0), (6, .int (x1 - x1 / 2 * 2)), (0, .ref a0), (1, .int x1), (3, .int (x2 / 169)), (4, .int q3)]) hx hb dX4_ahead_82 hl (by decide) rfl (fun ls hl => ?_)
            obtain rfl := Option.some.inj h
            exact J12 _ _ _ (lv_sub hl [2, 3, 4, 5, 0, 1] rfl) hP hD hS
        · have h := itT h c10
          refine lv_iload hx hb dX4_ahead_58 (lv_at hl 1 rfl) ?_
          refine lv_aload_n hx hb dX4_ahead_60 rfl (lv_at hl 2 rfl) ?_
          refine va_get (D := D) (ci := 3) (v := .int zmost1) (C := RX4) (T := TX4) (N := 21) hx hb hts inG4 hown hK hP 0 rfl rfl 8 (by decide) (hts _ wd2_160) (fun _ h9 => h9) rfl dX4_ahead_61 ?_
          refine lv_icmp_ge (tgt := 76) hx hb dX4_ahead_64 (by decide) (fun c15 => ?_) (fun c15 => ?_)
          · have h := itT h c15
            refine lv_iload_n hx hb dX4_ahead_76 rfl (lv_at hl 3 rfl) ?_
            refine lv_iconst (v := 1) hx hb dX4_ahead_77 (by decide) ?_
            refine lv_icmp_ne (tgt := 84) hx hb dX4_ahead_78 (by decide) (fun c16 => ?_) (fun c16 => ?_)
            · have h := itF h c16
              obtain rfl := Option.some.inj h
              exact J12 _ _ _ (lv_sub hl [2, 3, 4, 5, 1, 0] rfl) hP hD hS
            · have h := itT h c16
              refine lv_iconst (v := 0) hx hb dX4_ahead_81 (by decide) ?_
              refine lv_istore (lv' := [(5, .int 0), (6, .int (x1 - x1 / 2 * 2)), (0, .ref a0), (1, .int x1), (3, .int (x2 / 169)), (4, .int q3)]) hx hb dX4_ahead_82 hl (by decide) rfl (fun ls hl => ?_)
              obtain rfl := Option.some.inj h
              exact J12 _ _ _ (lv_sub hl [2, 3, 4, 5, 0, 1] rfl) hP hD hS
          · have h := itF h c15
            refine lv_iinc (v := q7 + 1) (lv' := [(5, .int (q7 + 1)), (6, .int (x1 - x1 / 2 * 2)), (0, .ref a0), (1, .int x1), (3, .int (x2 / 169)), (4, .int q3)]) hx hb dX4_ahead_67 hl (k := 1) rfl rfl (by decide) rfl (fun ls hl => ?_)
            refine lv_iconst (v := 0) hx hb dX4_ahead_70 (by decide) ?_
            refine lv_istore (lv' := [(6, .int 0), (5, .int (q7 + 1)), (0, .ref a0), (1, .int x1), (3, .int (x2 / 169)), (4, .int q3)]) hx hb dX4_ahead_71 hl (by decide) rfl (fun ls hl => ?_)
            refine lv_goto (tgt := 84) hx hb dX4_ahead_73 (by decide) ?_
            obtain rfl := Option.some.inj h
            exact J12 _ _ _ (lv_sub hl [2, 3, 4, 5, 1, 0] rfl) hP hD hS
      clear h
      have h := hb32
      clear hb32
      refine lv_icmp_ge (tgt := 45) hx hb dX4_ahead_35 (by decide) (fun c6 => ?_) (fun c6 => ?_)
      · have h := itT h c6
        refine lv_iconst (v := 0) hx hb dX4_ahead_45 (by decide) ?_
        obtain rfl := Option.some.inj h
        exact J8 _ _ _ (lv_sub hl [1, 2, 4, 0] rfl) hP hD hS
      · have h := itF h c6
        refine lv_iload_n hx hb dX4_ahead_38 rfl (lv_at hl 3 rfl) ?_
        refine lv_bipush (v := 13) hx hb dX4_ahead_39 (by decide) ?_
        refine lv_irem hx hb dX4_ahead_41 (by decide) ?_
        refine lv_goto (tgt := 46) hx hb dX4_ahead_42 (by decide) ?_
        obtain rfl := Option.some.inj h
        exact J8 _ _ _ (lv_sub hl [1, 2, 4, 0] rfl) hP hD hS
    clear h
    have h := hb33
    clear hb33
    refine lv_icmp_ge (tgt := 30) hx hb dX4_ahead_17 (by decide) (fun c2 => ?_) (fun c2 => ?_)
    · have h := itT h c2
      refine lv_iconst (v := 0) hx hb dX4_ahead_30 (by decide) ?_
      obtain rfl := Option.some.inj h
      exact J4 _ _ _ (lv_sub hl [1, 2, 3, 0] rfl) hP hD hS
    · have h := itF h c2
      refine lv_iload_n hx hb dX4_ahead_20 rfl (lv_at hl 3 rfl) ?_
      refine lv_bipush (v := 13) hx hb dX4_ahead_21 (by decide) ?_
      refine lv_idiv hx hb dX4_ahead_23 (by decide) ?_
      refine lv_bipush (v := 13) hx hb dX4_ahead_24 (by decide) ?_
      refine lv_irem hx hb dX4_ahead_26 (by decide) ?_
      refine lv_goto (tgt := 31) hx hb dX4_ahead_27 (by decide) ?_
      obtain rfl := Option.some.inj h
      exact J4 _ _ _ (lv_sub hl [1, 2, 3, 0] rfl) hP hD hS
  · have h := itT h c1
    refine lv_ldc (v := 1000000) hx hb hown (hts _ wd3_34) dX4_ahead_6 ?_
    obtain rfl := Option.some.inj h
    exact hret _ _ _ _ _ rfl hP hD hS dX4_ahead_8
def f_X4_lifted_L31 (N : Nat) (x1_31 : Int32) (x2_31 : Int32) (zs_31 : Nat → Int32) (zmeasure_31 : Nat → Int32) (zmost1_31 : Int32) (zmost3_31 : Int32) (zmost5_31 : Int32) : Nat → Int32 → Int32 → Option (Int32)
  | 0, _, _ => none
  | n_31 + 1, x3_31, x4_31 =>
    chk (gi 0 37) (if (zs_31 (Int32.toNatClampNeg 0)) ≤ x4_31 then (some x3_31) else (Option.bind (f_X4_hasWay N x1_31 x4_31 zs_31) (fun q12 => Option.bind (α := Int32) (if q12 = 0 then (some (x3_31)) else (chk (gi (13 + x1_31) 37) (chk (gi x4_31 12) (Option.bind (f_X4_ahead N (zs_31 (Int32.toNatClampNeg (13 + x1_31))) (zmeasure_31 (Int32.toNatClampNeg x4_31)) zmost1_31 zmost3_31 zmost5_31) (fun q20 => Option.bind (α := Int32) (if x2_31 = 0 then (if q20 ≤ x3_31 then (some (x3_31)) else (some (q20))) else (if x3_31 ≤ q20 then (some (x3_31)) else (some (q20)))) (fun q23 => some (q23))))))) (fun q15 => f_X4_lifted_L31 N x1_31 x2_31 zs_31 zmeasure_31 zmost1_31 zmost3_31 zmost5_31 n_31 q15 (x4_31 + 1)))))
def f_X4_lifted (N : Nat) (x1 : Int32) (zs : Nat → Int32) (zmeasure : Nat → Int32) (zmost1 : Int32) (zmost3 : Int32) (zmost5 : Int32) : Option (Int32) :=
    chk (gi (1 + x1) 37) (Option.bind (α := Int32) (if (zs (Int32.toNatClampNeg (1 + x1))) = 0 then (some (1)) else (some (0))) (fun q3 => Option.bind (α := Int32) (if q3 = 0 then (some (0)) else (some (1000000))) (fun q7 => Option.bind (f_X4_lifted_L31 N x1 q3 zs zmeasure zmost1 zmost3 zmost5 N q7 0) (fun q31 => some q31))))
set_option maxHeartbeats 4000000 in
set_option maxRecDepth 100000 in
theorem c_X4_lifted (l : Launch) (D : va_G) (cI cC cH : ClassId) (a0 : Nat) (a_s : Nat) (a_past : Nat) (a_kept : Nat) (a_text : Nat) (a_measure : Nat) (a_chosen : Nat) (a_ways : Nat) (a_owners : Nat) (a_ranks : Nat) (a_sets : Nat) (a_toldAt : Nat) (a_line : Nat) (N : Nat) (x1 : Int32) (zs : Nat → Int32) (zisKept : Int32) (zpasts : Int32) (ztyped : Int32) (zmeasure : Nat → Int32) (zmost1 : Int32) (zmost3 : Int32) (zmost5 : Int32) (zspot : Int32) (zreason : Int32) (zplaces : Int32) (y : Int32) (h : f_X4_lifted N x1 zs zmeasure zmost1 zmost3 zmost5 = some y) : CTi l yX4_lifted cX4_lifted 6 (some .int) 1 26 D (tyL cI cC cH) [.ref a0, .int x1] [(a0, .inr (3, [.ref a_s, .ref a_past, .ref a_kept, .int zisKept, .int zpasts, .ref a_text, .int ztyped, .ref a_measure, .int zmost1, .int zmost3, .int zmost5, .ref a_chosen, .ref a_ways, .int zspot, .int zreason, .int zplaces, .ref a_owners, .ref a_ranks, .ref a_sets, .ref a_toldAt, .ref a_line])), (a_s, .inl (cI, 37, .inl zs)), (a_measure, .inl (cI, 12, .inl zmeasure))] [(a0, .inr (3, [.ref a_s, .ref a_past, .ref a_kept, .int zisKept, .int zpasts, .ref a_text, .int ztyped, .ref a_measure, .int zmost1, .int zmost3, .int zmost5, .ref a_chosen, .ref a_ways, .int zspot, .int zreason, .int zplaces, .ref a_owners, .ref a_ranks, .ref a_sets, .ref a_toldAt, .ref a_line])), (a_s, .inl (cI, 37, .inl zs)), (a_measure, .inl (cI, 12, .inl zmeasure))] y := by
  unfold f_X4_lifted at h
  refine ctI (by decide) (Nat.le_of_ble_eq_true rfl) ?_
  intro p e s m args below meth c A Q ls F hret hP hD hS hl
  have hx := F.1
  have hb := F.2.1
  have hown : s.vm.findClass RX4 = some m.cls := F.2.2.2.1
  have hts := F.2.2.2.2.1
  have hN := F.2.2.2.2.2.1
  have hK := F.2.2.2.2.2.2.1
  have hl : lv_has ls 6 [(0, .ref a0), (1, .int x1)] := hl
  refine lv_aload_n hx hb dX4_lifted_0 rfl (lv_at hl 0 rfl) ?_
  refine va_get (D := D) (ci := 3) (v := .ref a_s) (C := RX4) (T := TX4) (N := 21) hx hb hts inG4 hown hK hP 0 rfl rfl 0 (by decide) (hts _ wd2_152) (fun _ h9 => h9) rfl dX4_lifted_1 ?_
  refine lv_iconst (v := 1) hx hb dX4_lifted_4 (by decide) ?_
  refine lv_iload_n hx hb dX4_lifted_5 rfl (lv_at hl 1 rfl) ?_
  refine lv_iadd hx hb dX4_lifted_6 ?_
  obtain ⟨g1, h⟩ := chk_s h
  refine va_iald hx hb hK hP 1 0 rfl rfl (gi_in g1) dX4_lifted_7 ?_
  obtain ⟨q3, hb34, h⟩ := bd h
  have J4 : ∀ (ls : Array Slot) (H : Heap) (locs : List Loc), lv_has ls 6 [(0, .ref a0), (1, .int x1)] → va_P D vwCl [(a0, .inr (3, [.ref a_s, .ref a_past, .ref a_kept, .int zisKept, .int zpasts, .ref a_text, .int ztyped, .ref a_measure, .int zmost1, .int zmost3, .int zmost5, .ref a_chosen, .ref a_ways, .int zspot, .int zreason, .int zplaces, .ref a_owners, .ref a_ranks, .ref a_sets, .ref a_toldAt, .ref a_line])), (a_s, .inl (cI, 37, .inl zs)), (a_measure, .inl (cI, 12, .inl zmeasure))] H → va_D A [(a0, .inr (3, [.ref a_s, .ref a_past, .ref a_kept, .int zisKept, .int zpasts, .ref a_text, .int ztyped, .ref a_measure, .int zmost1, .int zmost3, .int zmost5, .ref a_chosen, .ref a_ways, .int zspot, .int zreason, .int zplaces, .ref a_owners, .ref a_ranks, .ref a_sets, .ref a_toldAt, .ref a_line])), (a_s, .inl (cI, 37, .inl zs)), (a_measure, .inl (cI, 12, .inl zmeasure))] → va_S A s.heap H locs → W p l e (rmm 1 26) s m args below meth c H locs 0 0 Q (F0 m 16 ls [.int q3]) := by
    intro ls H locs hl hP hD hS
    refine lv_istore_n (lv' := [(2, .int q3), (0, .ref a0), (1, .int x1)]) hx hb dX4_lifted_16 rfl hl (by decide) rfl (fun ls hl => ?_)
    refine lv_iload_n hx hb dX4_lifted_17 rfl (lv_at hl 0 rfl) ?_
    obtain ⟨q7, hb33, h⟩ := bd h
    have J8 : ∀ (ls : Array Slot) (H : Heap) (locs : List Loc), lv_has ls 6 [(0, .ref a0), (1, .int x1), (2, .int q3)] → va_P D vwCl [(a0, .inr (3, [.ref a_s, .ref a_past, .ref a_kept, .int zisKept, .int zpasts, .ref a_text, .int ztyped, .ref a_measure, .int zmost1, .int zmost3, .int zmost5, .ref a_chosen, .ref a_ways, .int zspot, .int zreason, .int zplaces, .ref a_owners, .ref a_ranks, .ref a_sets, .ref a_toldAt, .ref a_line])), (a_s, .inl (cI, 37, .inl zs)), (a_measure, .inl (cI, 12, .inl zmeasure))] H → va_D A [(a0, .inr (3, [.ref a_s, .ref a_past, .ref a_kept, .int zisKept, .int zpasts, .ref a_text, .int ztyped, .ref a_measure, .int zmost1, .int zmost3, .int zmost5, .ref a_chosen, .ref a_ways, .int zspot, .int zreason, .int zplaces, .ref a_owners, .ref a_ranks, .ref a_sets, .ref a_toldAt, .ref a_line])), (a_s, .inl (cI, 37, .inl zs)), (a_measure, .inl (cI, 12, .inl zmeasure))] → va_S A s.heap H locs → W p l e (rmm 1 26) s m args below meth c H locs 0 0 Q (F0 m 27 ls [.int q7]) := by
      intro ls H locs hl hP hD hS
      refine lv_istore_n (lv' := [(3, .int q7), (0, .ref a0), (1, .int x1), (2, .int q3)]) hx hb dX4_lifted_27 rfl hl (by decide) rfl (fun ls hl => ?_)
      refine lv_iconst (v := 0) hx hb dX4_lifted_28 (by decide) ?_
      refine lv_istore (lv' := [(4, .int 0), (3, .int q7), (0, .ref a0), (1, .int x1), (2, .int q3)]) hx hb dX4_lifted_29 hl (by decide) rfl (fun ls hl => ?_)
      have L_31 : ∀ (x1_31 : Int32) (x2_31 : Int32) (zs_31 : Nat → Int32) (zisKept_31 : Int32) (zpasts_31 : Int32) (ztyped_31 : Int32) (zmeasure_31 : Nat → Int32) (zmost1_31 : Int32) (zmost3_31 : Int32) (zmost5_31 : Int32) (zspot_31 : Int32) (zreason_31 : Int32) (zplaces_31 : Int32), ∀ (n_31 : Nat) (x3_31 : Int32) (x4_31 : Int32) (q30 : (Int32)), f_X4_lifted_L31 N x1_31 x2_31 zs_31 zmeasure_31 zmost1_31 zmost3_31 zmost5_31 n_31 x3_31 x4_31 = some q30 → (∀ (ls : Array Slot) (H : Heap) (locs : List Loc), lv_has ls 6 [(3, .int q30)] → va_P D vwCl [(a0, .inr (3, [.ref a_s, .ref a_past, .ref a_kept, .int zisKept_31, .int zpasts_31, .ref a_text, .int ztyped_31, .ref a_measure, .int zmost1_31, .int zmost3_31, .int zmost5_31, .ref a_chosen, .ref a_ways, .int zspot_31, .int zreason_31, .int zplaces_31, .ref a_owners, .ref a_ranks, .ref a_sets, .ref a_toldAt, .ref a_line])), (a_s, .inl (cI, 37, .inl zs_31)), (a_measure, .inl (cI, 12, .inl zmeasure_31))] H → va_D A [(a0, .inr (3, [.ref a_s, .ref a_past, .ref a_kept, .int zisKept_31, .int zpasts_31, .ref a_text, .int ztyped_31, .ref a_measure, .int zmost1_31, .int zmost3_31, .int zmost5_31, .ref a_chosen, .ref a_ways, .int zspot_31, .int zreason_31, .int zplaces_31, .ref a_owners, .ref a_ranks, .ref a_sets, .ref a_toldAt, .ref a_line])), (a_s, .inl (cI, 37, .inl zs_31)), (a_measure, .inl (cI, 12, .inl zmeasure_31))] → va_S A s.heap H locs → W p l e (rmm 1 26) s m args below meth c H locs 0 0 Q (F0 m 112 ls [])) → ∀ (ls : Array Slot) (H : Heap) (locs : List Loc), lv_has ls 6 [(0, .ref a0), (1, .int x1_31), (2, .int x2_31), (3, .int x3_31), (4, .int x4_31)] → va_P D vwCl [(a0, .inr (3, [.ref a_s, .ref a_past, .ref a_kept, .int zisKept_31, .int zpasts_31, .ref a_text, .int ztyped_31, .ref a_measure, .int zmost1_31, .int zmost3_31, .int zmost5_31, .ref a_chosen, .ref a_ways, .int zspot_31, .int zreason_31, .int zplaces_31, .ref a_owners, .ref a_ranks, .ref a_sets, .ref a_toldAt, .ref a_line])), (a_s, .inl (cI, 37, .inl zs_31)), (a_measure, .inl (cI, 12, .inl zmeasure_31))] H → va_D A [(a0, .inr (3, [.ref a_s, .ref a_past, .ref a_kept, .int zisKept_31, .int zpasts_31, .ref a_text, .int ztyped_31, .ref a_measure, .int zmost1_31, .int zmost3_31, .int zmost5_31, .ref a_chosen, .ref a_ways, .int zspot_31, .int zreason_31, .int zplaces_31, .ref a_owners, .ref a_ranks, .ref a_sets, .ref a_toldAt, .ref a_line])), (a_s, .inl (cI, 37, .inl zs_31)), (a_measure, .inl (cI, 12, .inl zmeasure_31))] → va_S A s.heap H locs → W p l e (rmm 1 26) s m args below meth c H locs 0 0 Q (F0 m 31 ls []) := by
        intro x1_31 x2_31 zs_31 zisKept_31 zpasts_31 ztyped_31 zmeasure_31 zmost1_31 zmost3_31 zmost5_31 zspot_31 zreason_31 zplaces_31 n_31
        induction n_31 with
        | zero => intro x3_31 x4_31 q30 h; exact no_s h
        | succ n_31 ih_31 =>
          intro x3_31 x4_31 q30 h J_31 ls H locs hl hP hD hS
          rw [f_X4_lifted_L31] at h
          refine lv_iload hx hb dX4_lifted_31 (lv_at hl 4 rfl) ?_
          refine lv_aload_n hx hb dX4_lifted_33 rfl (lv_at hl 0 rfl) ?_
          refine va_get (D := D) (ci := 3) (v := .ref a_s) (C := RX4) (T := TX4) (N := 21) hx hb hts inG4 hown hK hP 0 rfl rfl 0 (by decide) (hts _ wd2_152) (fun _ h9 => h9) rfl dX4_lifted_34 ?_
          refine lv_iconst (v := 0) hx hb dX4_lifted_37 (by decide) ?_
          obtain ⟨g10, h⟩ := chk_s h
          refine va_iald hx hb hK hP 1 0 rfl rfl (gi_in g10) dX4_lifted_38 ?_
          refine lv_icmp_ge (tgt := 112) hx hb dX4_lifted_39 (by decide) (fun c11 => ?_) (fun c11 => ?_)
          · have h := itT h c11
            obtain rfl := Option.some.inj h
            exact J_31 _ _ _ (lv_sub hl [3] rfl) hP hD hS
          · have h := itF h c11
            refine lv_aload_n hx hb dX4_lifted_42 rfl (lv_at hl 0 rfl) ?_
            refine lv_iload_n hx hb dX4_lifted_43 rfl (lv_at hl 1 rfl) ?_
            refine lv_iload hx hb dX4_lifted_44 (lv_at hl 4 rfl) ?_
            obtain ⟨q12, hq13, h⟩ := bd h
            refine kvI (ws' := [(a0, .inr (3, [.ref a_s, .ref a_past, .ref a_kept, .int zisKept_31, .int zpasts_31, .ref a_text, .int ztyped_31, .ref a_measure, .int zmost1_31, .int zmost3_31, .int zmost5_31, .ref a_chosen, .ref a_ways, .int zspot_31, .int zreason_31, .int zplaces_31, .ref a_owners, .ref a_ranks, .ref a_sets, .ref a_toldAt, .ref a_line])), (a_s, .inl (cI, 37, .inl zs_31)), (a_measure, .inl (cI, 12, .inl zmeasure_31))]) (wr := [(a_measure, .inl (cI, 12, .inl zmeasure_31))]) (As := [.int x1_31, .int x4_31]) F (c_X4_hasWay l D cI cC cH a0 a_s a_past a_kept a_text a_measure a_chosen a_ways a_owners a_ranks a_sets a_toldAt a_line N x1_31 x4_31 zs_31 zisKept_31 zpasts_31 ztyped_31 zmost1_31 zmost3_31 zmost5_31 zspot_31 zreason_31 zplaces_31 q12 hq13) yfX4_hasWay ⟨wd3_3, wd3_5, wdp_21⟩ hP hD hS [0, 1] [2] [1, 2, 0] rfl rfl (by decide) (by decide) (by decide) rfl (by decide) 0 3 rfl rfl rfl ⟨Nat.le_of_ble_eq_true rfl, Nat.le_of_ble_eq_true rfl, Nat.zero_le _, Nat.zero_le _⟩ rfl hl rfl (Nat.le_of_ble_eq_true rfl) dX4_lifted_46 (fun H locs hP hD hS => ?_)
            obtain ⟨q15, hb29, h⟩ := bd h
            have J16 : ∀ (ls : Array Slot) (H : Heap) (locs : List Loc), lv_has ls 6 [(0, .ref a0), (1, .int x1_31), (2, .int x2_31), (3, .int q15), (4, .int x4_31)] → va_P D vwCl [(a0, .inr (3, [.ref a_s, .ref a_past, .ref a_kept, .int zisKept_31, .int zpasts_31, .ref a_text, .int ztyped_31, .ref a_measure, .int zmost1_31, .int zmost3_31, .int zmost5_31, .ref a_chosen, .ref a_ways, .int zspot_31, .int zreason_31, .int zplaces_31, .ref a_owners, .ref a_ranks, .ref a_sets, .ref a_toldAt, .ref a_line])), (a_s, .inl (cI, 37, .inl zs_31)), (a_measure, .inl (cI, 12, .inl zmeasure_31))] H → va_D A [(a0, .inr (3, [.ref a_s, .ref a_past, .ref a_kept, .int zisKept_31, .int zpasts_31, .ref a_text, .int ztyped_31, .ref a_measure, .int zmost1_31, .int zmost3_31, .int zmost5_31, .ref a_chosen, .ref a_ways, .int zspot_31, .int zreason_31, .int zplaces_31, .ref a_owners, .ref a_ranks, .ref a_sets, .ref a_toldAt, .ref a_line])), (a_s, .inl (cI, 37, .inl zs_31)), (a_measure, .inl (cI, 12, .inl zmeasure_31))] → va_S A s.heap H locs → W p l e (rmm 1 26) s m args below meth c H locs 0 0 Q (F0 m 106 ls []) := by
              intro ls H locs hl hP hD hS
              refine lv_iinc (v := x4_31 + 1) (lv' := [(4, .int (x4_31 + 1)), (0, .ref a0), (1, .int x1_31), (2, .int x2_31), (3, .int q15)]) hx hb dX4_lifted_106 hl (k := 4) rfl rfl (by decide) rfl (fun ls hl => ?_)
              refine lv_goto (tgt := 31) hx hb dX4_lifted_109 (by decide) ?_
              exact ih_31 q15 (x4_31 + 1) _ h J_31 _ _ _ (lv_sub hl [1, 2, 3, 4, 0] rfl) hP hD hS
            clear h
            have h := hb29
            clear hb29
            refine lv_if_eq (tgt := 106) hx hb dX4_lifted_49 (by decide) (fun c14 => ?_) (fun c14 => ?_)
            · have h := itT h c14
              obtain rfl := Option.some.inj h
              exact J16 _ _ _ (lv_sub hl [0, 1, 2, 3, 4] rfl) hP hD hS
            · have h := itF h c14
              refine lv_aload_n hx hb dX4_lifted_52 rfl (lv_at hl 0 rfl) ?_
              refine lv_aload_n hx hb dX4_lifted_53 rfl (lv_at hl 0 rfl) ?_
              refine va_get (D := D) (ci := 3) (v := .ref a_s) (C := RX4) (T := TX4) (N := 21) hx hb hts inG4 hown hK hP 0 rfl rfl 0 (by decide) (hts _ wd2_152) (fun _ h9 => h9) rfl dX4_lifted_54 ?_
              refine lv_bipush (v := 13) hx hb dX4_lifted_57 (by decide) ?_
              refine lv_iload_n hx hb dX4_lifted_59 rfl (lv_at hl 1 rfl) ?_
              refine lv_iadd hx hb dX4_lifted_60 ?_
              obtain ⟨g18, h⟩ := chk_s h
              refine va_iald hx hb hK hP 1 0 rfl rfl (gi_in g18) dX4_lifted_61 ?_
              refine lv_aload_n hx hb dX4_lifted_62 rfl (lv_at hl 0 rfl) ?_
              refine va_get (D := D) (ci := 3) (v := .ref a_measure) (C := RX4) (T := TX4) (N := 21) hx hb hts inG4 hown hK hP 0 rfl rfl 7 (by decide) (hts _ wd2_159) (fun _ h9 => h9) rfl dX4_lifted_63 ?_
              refine lv_iload hx hb dX4_lifted_66 (lv_at hl 4 rfl) ?_
              obtain ⟨g19, h⟩ := chk_s h
              refine va_iald hx hb hK hP 2 0 rfl rfl (gi_in g19) dX4_lifted_68 ?_
              obtain ⟨q20, hq21, h⟩ := bd h
              refine kvI (ws' := [(a0, .inr (3, [.ref a_s, .ref a_past, .ref a_kept, .int zisKept_31, .int zpasts_31, .ref a_text, .int ztyped_31, .ref a_measure, .int zmost1_31, .int zmost3_31, .int zmost5_31, .ref a_chosen, .ref a_ways, .int zspot_31, .int zreason_31, .int zplaces_31, .ref a_owners, .ref a_ranks, .ref a_sets, .ref a_toldAt, .ref a_line])), (a_s, .inl (cI, 37, .inl zs_31)), (a_measure, .inl (cI, 12, .inl zmeasure_31))]) (wr := [(a_s, .inl (cI, 37, .inl zs_31)), (a_measure, .inl (cI, 12, .inl zmeasure_31))]) (As := [.int (zs_31 (Int32.toNatClampNeg (13 + x1_31))), .int (zmeasure_31 (Int32.toNatClampNeg x4_31))]) F (c_X4_ahead l D cI cC cH a0 a_s a_past a_kept a_text a_measure a_chosen a_ways a_owners a_ranks a_sets a_toldAt a_line N (zs_31 (Int32.toNatClampNeg (13 + x1_31))) (zmeasure_31 (Int32.toNatClampNeg x4_31)) zisKept_31 zpasts_31 ztyped_31 zmost1_31 zmost3_31 zmost5_31 zspot_31 zreason_31 zplaces_31 q20 hq21) yfX4_ahead ⟨wd3_35, wd3_37, wdp_26⟩ hP hD hS [0] [1, 2] [2, 0, 1] rfl rfl (by decide) (by decide) (by decide) rfl (by decide) 0 3 rfl rfl rfl ⟨Nat.le_of_ble_eq_true rfl, Nat.le_of_ble_eq_true rfl, Nat.zero_le _, Nat.zero_le _⟩ rfl hl rfl (Nat.le_of_ble_eq_true rfl) dX4_lifted_69 (fun H locs hP hD hS => ?_)
              refine lv_istore (lv' := [(5, .int q20), (0, .ref a0), (1, .int x1_31), (2, .int x2_31), (3, .int x3_31), (4, .int x4_31)]) hx hb dX4_lifted_72 hl (by decide) rfl (fun ls hl => ?_)
              refine lv_iload_n hx hb dX4_lifted_74 rfl (lv_at hl 3 rfl) ?_
              obtain ⟨q23, hb28, h⟩ := bd h
              have J24 : ∀ (ls : Array Slot) (H : Heap) (locs : List Loc), lv_has ls 6 [(0, .ref a0), (1, .int x1_31), (2, .int x2_31), (4, .int x4_31)] → va_P D vwCl [(a0, .inr (3, [.ref a_s, .ref a_past, .ref a_kept, .int zisKept_31, .int zpasts_31, .ref a_text, .int ztyped_31, .ref a_measure, .int zmost1_31, .int zmost3_31, .int zmost5_31, .ref a_chosen, .ref a_ways, .int zspot_31, .int zreason_31, .int zplaces_31, .ref a_owners, .ref a_ranks, .ref a_sets, .ref a_toldAt, .ref a_line])), (a_s, .inl (cI, 37, .inl zs_31)), (a_measure, .inl (cI, 12, .inl zmeasure_31))] H → va_D A [(a0, .inr (3, [.ref a_s, .ref a_past, .ref a_kept, .int zisKept_31, .int zpasts_31, .ref a_text, .int ztyped_31, .ref a_measure, .int zmost1_31, .int zmost3_31, .int zmost5_31, .ref a_chosen, .ref a_ways, .int zspot_31, .int zreason_31, .int zplaces_31, .ref a_owners, .ref a_ranks, .ref a_sets, .ref a_toldAt, .ref a_line])), (a_s, .inl (cI, 37, .inl zs_31)), (a_measure, .inl (cI, 12, .inl zmeasure_31))] → va_S A s.heap H locs → W p l e (rmm 1 26) s m args below meth c H locs 0 0 Q (F0 m 105 ls [.int q23]) := by
                intro ls H locs hl hP hD hS
                refine lv_istore_n (lv' := [(3, .int q23), (0, .ref a0), (1, .int x1_31), (2, .int x2_31), (4, .int x4_31)]) hx hb dX4_lifted_105 rfl hl (by decide) rfl (fun ls hl => ?_)
                obtain rfl := Option.some.inj h
                exact J16 _ _ _ (lv_sub hl [1, 2, 3, 0, 4] rfl) hP hD hS
              clear h
              have h := hb28
              clear hb28
              refine lv_if_eq (tgt := 93) hx hb dX4_lifted_75 (by decide) (fun c22 => ?_) (fun c22 => ?_)
              · have h := itT h c22
                refine lv_iload hx hb dX4_lifted_93 (lv_at hl 0 rfl) ?_
                refine lv_iload_n hx hb dX4_lifted_95 rfl (lv_at hl 4 rfl) ?_
                refine lv_icmp_le (tgt := 104) hx hb dX4_lifted_96 (by decide) (fun c26 => ?_) (fun c26 => ?_)
                · have h := itT h c26
                  refine lv_iload_n hx hb dX4_lifted_104 rfl (lv_at hl 4 rfl) ?_
                  obtain rfl := Option.some.inj h
                  exact J24 _ _ _ (lv_sub hl [1, 2, 3, 5] rfl) hP hD hS
                · have h := itF h c26
                  refine lv_iload hx hb dX4_lifted_99 (lv_at hl 0 rfl) ?_
                  refine lv_goto (tgt := 105) hx hb dX4_lifted_101 (by decide) ?_
                  obtain rfl := Option.some.inj h
                  exact J24 _ _ _ (lv_sub hl [1, 2, 3, 5] rfl) hP hD hS
              · have h := itF h c22
                refine lv_iload hx hb dX4_lifted_78 (lv_at hl 0 rfl) ?_
                refine lv_iload_n hx hb dX4_lifted_80 rfl (lv_at hl 4 rfl) ?_
                refine lv_icmp_ge (tgt := 89) hx hb dX4_lifted_81 (by decide) (fun c27 => ?_) (fun c27 => ?_)
                · have h := itT h c27
                  refine lv_iload_n hx hb dX4_lifted_89 rfl (lv_at hl 4 rfl) ?_
                  refine lv_goto (tgt := 105) hx hb dX4_lifted_90 (by decide) ?_
                  obtain rfl := Option.some.inj h
                  exact J24 _ _ _ (lv_sub hl [1, 2, 3, 5] rfl) hP hD hS
                · have h := itF h c27
                  refine lv_iload hx hb dX4_lifted_84 (lv_at hl 0 rfl) ?_
                  refine lv_goto (tgt := 105) hx hb dX4_lifted_86 (by decide) ?_
                  obtain rfl := Option.some.inj h
                  exact J24 _ _ _ (lv_sub hl [1, 2, 3, 5] rfl) hP hD hS
      obtain ⟨q31, hb32, h⟩ := bd h
      refine L_31 x1 q3 zs zisKept zpasts ztyped zmeasure zmost1 zmost3 zmost5 zspot zreason zplaces N q7 0 q31 hb32 ?_ _ _ _ (lv_sub hl [2, 3, 4, 1, 0] rfl) hP hD hS
      intro ls H locs hl hP hD hS
      refine lv_iload_n hx hb dX4_lifted_112 rfl (lv_at hl 0 rfl) ?_
      obtain rfl := Option.some.inj h
      exact hret _ _ _ _ _ rfl hP hD hS dX4_lifted_113
    clear h
    have h := hb33
    clear hb33
    refine lv_if_eq (tgt := 26) hx hb dX4_lifted_18 (by decide) (fun c6 => ?_) (fun c6 => ?_)
    · have h := itT h c6
      refine lv_iconst (v := 0) hx hb dX4_lifted_26 (by decide) ?_
      obtain rfl := Option.some.inj h
      exact J8 _ _ _ (lv_sub hl [1, 2, 0] rfl) hP hD hS
    · have h := itF h c6
      refine lv_ldc (v := 1000000) hx hb hown (hts _ wd3_34) dX4_lifted_21 ?_
      refine lv_goto (tgt := 27) hx hb dX4_lifted_23 (by decide) ?_
      obtain rfl := Option.some.inj h
      exact J8 _ _ _ (lv_sub hl [1, 2, 0] rfl) hP hD hS
  clear h
  have h := hb34
  clear hb34
  refine lv_if_ne (tgt := 15) hx hb dX4_lifted_8 (by decide) (fun c2 => ?_) (fun c2 => ?_)
  · have h := itF h c2
    refine lv_iconst (v := 0) hx hb dX4_lifted_15 (by decide) ?_
    obtain rfl := Option.some.inj h
    exact J4 _ _ _ (lv_sub hl [0, 1] rfl) hP hD hS
  · have h := itT h c2
    refine lv_iconst (v := 1) hx hb dX4_lifted_11 (by decide) ?_
    refine lv_goto (tgt := 16) hx hb dX4_lifted_12 (by decide) ?_
    obtain rfl := Option.some.inj h
    exact J4 _ _ _ (lv_sub hl [0, 1] rfl) hP hD hS
def f_X4_won_L29 (N : Nat) : Nat → Int32 → (Nat → Int32) → Option ((Nat → Int32))
  | 0, _, _ => none
  | n_29 + 1, x1_29, zmeasure_29 =>
    if 12 ≤ x1_29 then (some zmeasure_29) else (chk (gi x1_29 12) (f_X4_won_L29 N n_29 (x1_29 + 1) (upd zmeasure_29 (Int32.toNatClampNeg x1_29) 0)))
def f_X4_won_L58 (N : Nat) (zs_58 : Nat → Int32) (zmost1_58 : Int32) (zmost3_58 : Int32) (zmost5_58 : Int32) : Nat → Int32 → Int32 → (Nat → Int32) → Option (Int32 × (Nat → Int32))
  | 0, _, _, _ => none
  | n_58 + 1, x1_58, x2_58, zmeasure_58 =>
    chk (gi 0 37) (if (zs_58 (Int32.toNatClampNeg 0)) ≤ x2_58 then (some (x1_58, zmeasure_58)) else (Option.bind (f_X4_lifted N x2_58 zs_58 zmeasure_58 zmost1_58 zmost3_58 zmost5_58) (fun q14 => Option.bind (α := Int32) (if x1_58 = 0 then (chk (gi x2_58 12) (if q14 ≤ (zmeasure_58 (Int32.toNatClampNeg x2_58)) then (some (0)) else (some (1)))) else (some (1))) (fun q17 => chk (gi x2_58 12) (Option.bind (α := Int32) (if q14 ≤ (zmeasure_58 (Int32.toNatClampNeg x2_58)) then (chk (gi x2_58 12) (some (zmeasure_58 (Int32.toNatClampNeg x2_58)))) else (some (q14))) (fun q24 => chk (gi x2_58 12) (f_X4_won_L58 N zs_58 zmost1_58 zmost3_58 zmost5_58 n_58 q17 (x2_58 + 1) (upd zmeasure_58 (Int32.toNatClampNeg x2_58) q24))))))))
def f_X4_won_L50 (N : Nat) (zs_50 : Nat → Int32) (zmost1_50 : Int32) (zmost3_50 : Int32) (zmost5_50 : Int32) : Nat → Int32 → (Nat → Int32) → Option ((Nat → Int32))
  | 0, _, _ => none
  | n_50 + 1, x1_50, zmeasure_50 =>
    if x1_50 = 0 then (some zmeasure_50) else (Option.bind (f_X4_won_L58 N zs_50 zmost1_50 zmost3_50 zmost5_50 N 0 0 zmeasure_50) (fun q32 => f_X4_won_L50 N zs_50 zmost1_50 zmost3_50 zmost5_50 n_50 q32.1 q32.2))
def f_X4_won_L133 (N : Nat) (zs_133 : Nat → Int32) (zmeasure_133 : Nat → Int32) : Nat → Int32 → Int32 → Option (Int32)
  | 0, _, _ => none
  | n_133 + 1, x2_133, x3_133 =>
    chk (gi 0 37) (if (zs_133 (Int32.toNatClampNeg 0)) ≤ x3_133 then (some x2_133) else (chk (gi x3_133 12) (Option.bind (α := Int32) (if 1000000 ≤ (zmeasure_133 (Int32.toNatClampNeg x3_133)) then (some (0)) else (some ((1 : Int32) <<< (x3_133 &&& 31)))) (fun q40 => f_X4_won_L133 N zs_133 zmeasure_133 n_133 (x2_133 ||| q40) (x3_133 + 1)))))
def f_X4_won (N : Nat) (zs : Nat → Int32) (zmeasure : Nat → Int32) (zmost1 : Int32) (zmost3 : Int32) (zmost5 : Int32) : Option (Int32 × (Nat → Int32) × Int32 × Int32 × Int32) :=
    Option.bind (f_X4_withRank N 1 zs) (fun q1 => Option.bind (f_X4_withRank N 3 zs) (fun q3 => Option.bind (f_X4_withRank N 5 zs) (fun q5 => Option.bind (f_X4_won_L29 N N 0 zmeasure) (fun q10 => Option.bind (f_X4_won_L50 N zs q1 q3 q5 N 1 q10) (fun q35 => Option.bind (f_X4_won_L133 N zs q35 N 0 0) (fun q45 => some (q45, q35, q1, q3, q5)))))))
set_option maxHeartbeats 4000000 in
set_option maxRecDepth 100000 in
theorem c_X4_won (l : Launch) (D : va_G) (cI cC cH : ClassId) (a0 : Nat) (a_s : Nat) (a_past : Nat) (a_kept : Nat) (a_text : Nat) (a_measure : Nat) (a_chosen : Nat) (a_ways : Nat) (a_owners : Nat) (a_ranks : Nat) (a_sets : Nat) (a_toldAt : Nat) (a_line : Nat) (N : Nat) (zs : Nat → Int32) (zisKept : Int32) (zpasts : Int32) (ztyped : Int32) (zmeasure : Nat → Int32) (zmost1 : Int32) (zmost3 : Int32) (zmost5 : Int32) (zspot : Int32) (zreason : Int32) (zplaces : Int32) (y : Int32 × (Nat → Int32) × Int32 × Int32 × Int32) (h : f_X4_won N zs zmeasure zmost1 zmost3 zmost5 = some y) : CTi l yX4_won cX4_won 4 (some .int) 2 51 D (tyL cI cC cH) [.ref a0] [(a0, .inr (3, [.ref a_s, .ref a_past, .ref a_kept, .int zisKept, .int zpasts, .ref a_text, .int ztyped, .ref a_measure, .int zmost1, .int zmost3, .int zmost5, .ref a_chosen, .ref a_ways, .int zspot, .int zreason, .int zplaces, .ref a_owners, .ref a_ranks, .ref a_sets, .ref a_toldAt, .ref a_line])), (a_s, .inl (cI, 37, .inl zs)), (a_measure, .inl (cI, 12, .inl zmeasure))] [(a0, .inr (3, [.ref a_s, .ref a_past, .ref a_kept, .int zisKept, .int zpasts, .ref a_text, .int ztyped, .ref a_measure, .int y.2.2.1, .int y.2.2.2.1, .int y.2.2.2.2, .ref a_chosen, .ref a_ways, .int zspot, .int zreason, .int zplaces, .ref a_owners, .ref a_ranks, .ref a_sets, .ref a_toldAt, .ref a_line])), (a_s, .inl (cI, 37, .inl zs)), (a_measure, .inl (cI, 12, .inl y.2.1))] y.1 := by
  unfold f_X4_won at h
  refine ctI (by decide) (Nat.le_of_ble_eq_true rfl) ?_
  intro p e s m args below meth c A Q ls F hret hP hD hS hl
  have hx := F.1
  have hb := F.2.1
  have hown : s.vm.findClass RX4 = some m.cls := F.2.2.2.1
  have hts := F.2.2.2.2.1
  have hN := F.2.2.2.2.2.1
  have hK := F.2.2.2.2.2.2.1
  have hl : lv_has ls 4 [(0, .ref a0)] := hl
  refine lv_aload_n hx hb dX4_won_0 rfl (lv_at hl 0 rfl) ?_
  refine lv_aload_n hx hb dX4_won_1 rfl (lv_at hl 0 rfl) ?_
  refine lv_iconst (v := 1) hx hb dX4_won_2 (by decide) ?_
  obtain ⟨q1, hq2, h⟩ := bd h
  refine kvI (ws' := [(a0, .inr (3, [.ref a_s, .ref a_past, .ref a_kept, .int zisKept, .int zpasts, .ref a_text, .int ztyped, .ref a_measure, .int zmost1, .int zmost3, .int zmost5, .ref a_chosen, .ref a_ways, .int zspot, .int zreason, .int zplaces, .ref a_owners, .ref a_ranks, .ref a_sets, .ref a_toldAt, .ref a_line])), (a_s, .inl (cI, 37, .inl zs)), (a_measure, .inl (cI, 12, .inl zmeasure))]) (wr := [(a_measure, .inl (cI, 12, .inl zmeasure))]) (As := [.int 1]) F (c_X4_withRank l D cI cC cH a0 a_s a_past a_kept a_text a_measure a_chosen a_ways a_owners a_ranks a_sets a_toldAt a_line N 1 zs zisKept zpasts ztyped zmost1 zmost3 zmost5 zspot zreason zplaces q1 hq2) yfX4_withRank ⟨wd3_26, wd3_28, wdp_24⟩ hP hD hS [0, 1] [2] [1, 2, 0] rfl rfl (by decide) (by decide) (by decide) rfl (by decide) 0 3 rfl rfl rfl ⟨Nat.le_of_ble_eq_true rfl, Nat.le_of_ble_eq_true rfl, Nat.zero_le _, Nat.zero_le _⟩ rfl hl rfl (Nat.le_of_ble_eq_true rfl) dX4_won_3 (fun H locs hP hD hS => ?_)
  refine va_put (D := D) (ci := 3) (v := .int q1) (ty := .int) (C := RX4) (T := TX4) (N := 21) hx hb hts inG4 tyX4 tyX4_ok nmX4 hown hK hP hD hS 0 rfl rfl 8 (by decide) (hts _ wd2_160) (fun _ h9 => h9) rfl (by decide +kernel) rfl rfl (Nat.le_of_ble_eq_true rfl) dX4_won_6 (fun H locs hP hD hS => ?_)
  have hP : va_P D vwCl [(a0, .inr (3, [.ref a_s, .ref a_past, .ref a_kept, .int zisKept, .int zpasts, .ref a_text, .int ztyped, .ref a_measure, .int q1, .int zmost3, .int zmost5, .ref a_chosen, .ref a_ways, .int zspot, .int zreason, .int zplaces, .ref a_owners, .ref a_ranks, .ref a_sets, .ref a_toldAt, .ref a_line])), (a_s, .inl (cI, 37, .inl zs)), (a_measure, .inl (cI, 12, .inl zmeasure))] H := hP
  have hD : va_D A [(a0, .inr (3, [.ref a_s, .ref a_past, .ref a_kept, .int zisKept, .int zpasts, .ref a_text, .int ztyped, .ref a_measure, .int q1, .int zmost3, .int zmost5, .ref a_chosen, .ref a_ways, .int zspot, .int zreason, .int zplaces, .ref a_owners, .ref a_ranks, .ref a_sets, .ref a_toldAt, .ref a_line])), (a_s, .inl (cI, 37, .inl zs)), (a_measure, .inl (cI, 12, .inl zmeasure))] := hD
  refine lv_aload_n hx hb dX4_won_9 rfl (lv_at hl 0 rfl) ?_
  refine lv_aload_n hx hb dX4_won_10 rfl (lv_at hl 0 rfl) ?_
  refine lv_iconst (v := 3) hx hb dX4_won_11 (by decide) ?_
  obtain ⟨q3, hq4, h⟩ := bd h
  refine kvI (ws' := [(a0, .inr (3, [.ref a_s, .ref a_past, .ref a_kept, .int zisKept, .int zpasts, .ref a_text, .int ztyped, .ref a_measure, .int q1, .int zmost3, .int zmost5, .ref a_chosen, .ref a_ways, .int zspot, .int zreason, .int zplaces, .ref a_owners, .ref a_ranks, .ref a_sets, .ref a_toldAt, .ref a_line])), (a_s, .inl (cI, 37, .inl zs)), (a_measure, .inl (cI, 12, .inl zmeasure))]) (wr := [(a_measure, .inl (cI, 12, .inl zmeasure))]) (As := [.int 3]) F (c_X4_withRank l D cI cC cH a0 a_s a_past a_kept a_text a_measure a_chosen a_ways a_owners a_ranks a_sets a_toldAt a_line N 3 zs zisKept zpasts ztyped q1 zmost3 zmost5 zspot zreason zplaces q3 hq4) yfX4_withRank ⟨wd3_26, wd3_28, wdp_24⟩ hP hD hS [0, 1] [2] [1, 2, 0] rfl rfl (by decide) (by decide) (by decide) rfl (by decide) 0 3 rfl rfl rfl ⟨Nat.le_of_ble_eq_true rfl, Nat.le_of_ble_eq_true rfl, Nat.zero_le _, Nat.zero_le _⟩ rfl hl rfl (Nat.le_of_ble_eq_true rfl) dX4_won_12 (fun H locs hP hD hS => ?_)
  refine va_put (D := D) (ci := 3) (v := .int q3) (ty := .int) (C := RX4) (T := TX4) (N := 21) hx hb hts inG4 tyX4 tyX4_ok nmX4 hown hK hP hD hS 0 rfl rfl 9 (by decide) (hts _ wd2_161) (fun _ h9 => h9) rfl (by decide +kernel) rfl rfl (Nat.le_of_ble_eq_true rfl) dX4_won_15 (fun H locs hP hD hS => ?_)
  have hP : va_P D vwCl [(a0, .inr (3, [.ref a_s, .ref a_past, .ref a_kept, .int zisKept, .int zpasts, .ref a_text, .int ztyped, .ref a_measure, .int q1, .int q3, .int zmost5, .ref a_chosen, .ref a_ways, .int zspot, .int zreason, .int zplaces, .ref a_owners, .ref a_ranks, .ref a_sets, .ref a_toldAt, .ref a_line])), (a_s, .inl (cI, 37, .inl zs)), (a_measure, .inl (cI, 12, .inl zmeasure))] H := hP
  have hD : va_D A [(a0, .inr (3, [.ref a_s, .ref a_past, .ref a_kept, .int zisKept, .int zpasts, .ref a_text, .int ztyped, .ref a_measure, .int q1, .int q3, .int zmost5, .ref a_chosen, .ref a_ways, .int zspot, .int zreason, .int zplaces, .ref a_owners, .ref a_ranks, .ref a_sets, .ref a_toldAt, .ref a_line])), (a_s, .inl (cI, 37, .inl zs)), (a_measure, .inl (cI, 12, .inl zmeasure))] := hD
  refine lv_aload_n hx hb dX4_won_18 rfl (lv_at hl 0 rfl) ?_
  refine lv_aload_n hx hb dX4_won_19 rfl (lv_at hl 0 rfl) ?_
  refine lv_iconst (v := 5) hx hb dX4_won_20 (by decide) ?_
  obtain ⟨q5, hq6, h⟩ := bd h
  refine kvI (ws' := [(a0, .inr (3, [.ref a_s, .ref a_past, .ref a_kept, .int zisKept, .int zpasts, .ref a_text, .int ztyped, .ref a_measure, .int q1, .int q3, .int zmost5, .ref a_chosen, .ref a_ways, .int zspot, .int zreason, .int zplaces, .ref a_owners, .ref a_ranks, .ref a_sets, .ref a_toldAt, .ref a_line])), (a_s, .inl (cI, 37, .inl zs)), (a_measure, .inl (cI, 12, .inl zmeasure))]) (wr := [(a_measure, .inl (cI, 12, .inl zmeasure))]) (As := [.int 5]) F (c_X4_withRank l D cI cC cH a0 a_s a_past a_kept a_text a_measure a_chosen a_ways a_owners a_ranks a_sets a_toldAt a_line N 5 zs zisKept zpasts ztyped q1 q3 zmost5 zspot zreason zplaces q5 hq6) yfX4_withRank ⟨wd3_26, wd3_28, wdp_24⟩ hP hD hS [0, 1] [2] [1, 2, 0] rfl rfl (by decide) (by decide) (by decide) rfl (by decide) 0 3 rfl rfl rfl ⟨Nat.le_of_ble_eq_true rfl, Nat.le_of_ble_eq_true rfl, Nat.zero_le _, Nat.zero_le _⟩ rfl hl rfl (Nat.le_of_ble_eq_true rfl) dX4_won_21 (fun H locs hP hD hS => ?_)
  refine va_put (D := D) (ci := 3) (v := .int q5) (ty := .int) (C := RX4) (T := TX4) (N := 21) hx hb hts inG4 tyX4 tyX4_ok nmX4 hown hK hP hD hS 0 rfl rfl 10 (by decide) (hts _ wd2_162) (fun _ h9 => h9) rfl (by decide +kernel) rfl rfl (Nat.le_of_ble_eq_true rfl) dX4_won_24 (fun H locs hP hD hS => ?_)
  have hP : va_P D vwCl [(a0, .inr (3, [.ref a_s, .ref a_past, .ref a_kept, .int zisKept, .int zpasts, .ref a_text, .int ztyped, .ref a_measure, .int q1, .int q3, .int q5, .ref a_chosen, .ref a_ways, .int zspot, .int zreason, .int zplaces, .ref a_owners, .ref a_ranks, .ref a_sets, .ref a_toldAt, .ref a_line])), (a_s, .inl (cI, 37, .inl zs)), (a_measure, .inl (cI, 12, .inl zmeasure))] H := hP
  have hD : va_D A [(a0, .inr (3, [.ref a_s, .ref a_past, .ref a_kept, .int zisKept, .int zpasts, .ref a_text, .int ztyped, .ref a_measure, .int q1, .int q3, .int q5, .ref a_chosen, .ref a_ways, .int zspot, .int zreason, .int zplaces, .ref a_owners, .ref a_ranks, .ref a_sets, .ref a_toldAt, .ref a_line])), (a_s, .inl (cI, 37, .inl zs)), (a_measure, .inl (cI, 12, .inl zmeasure))] := hD
  refine lv_iconst (v := 0) hx hb dX4_won_27 (by decide) ?_
  refine lv_istore_n (lv' := [(1, .int 0), (0, .ref a0)]) hx hb dX4_won_28 rfl hl (by decide) rfl (fun ls hl => ?_)
  have L_29 : ∀ (zs_29 : Nat → Int32) (zisKept_29 : Int32) (zpasts_29 : Int32) (ztyped_29 : Int32) (zmost1_29 : Int32) (zmost3_29 : Int32) (zmost5_29 : Int32) (zspot_29 : Int32) (zreason_29 : Int32) (zplaces_29 : Int32), ∀ (n_29 : Nat) (x1_29 : Int32) (zmeasure_29 : Nat → Int32) (q9 : ((Nat → Int32))), f_X4_won_L29 N n_29 x1_29 zmeasure_29 = some q9 → (∀ (ls : Array Slot) (H : Heap) (locs : List Loc), lv_has ls 4 [(0, .ref a0)] → va_P D vwCl [(a0, .inr (3, [.ref a_s, .ref a_past, .ref a_kept, .int zisKept_29, .int zpasts_29, .ref a_text, .int ztyped_29, .ref a_measure, .int zmost1_29, .int zmost3_29, .int zmost5_29, .ref a_chosen, .ref a_ways, .int zspot_29, .int zreason_29, .int zplaces_29, .ref a_owners, .ref a_ranks, .ref a_sets, .ref a_toldAt, .ref a_line])), (a_s, .inl (cI, 37, .inl zs_29)), (a_measure, .inl (cI, 12, .inl q9))] H → va_D A [(a0, .inr (3, [.ref a_s, .ref a_past, .ref a_kept, .int zisKept_29, .int zpasts_29, .ref a_text, .int ztyped_29, .ref a_measure, .int zmost1_29, .int zmost3_29, .int zmost5_29, .ref a_chosen, .ref a_ways, .int zspot_29, .int zreason_29, .int zplaces_29, .ref a_owners, .ref a_ranks, .ref a_sets, .ref a_toldAt, .ref a_line])), (a_s, .inl (cI, 37, .inl zs_29)), (a_measure, .inl (cI, 12, .inl q9))] → va_S A s.heap H locs → W p l e (rmm 2 51) s m args below meth c H locs 0 0 Q (F0 m 48 ls [])) → ∀ (ls : Array Slot) (H : Heap) (locs : List Loc), lv_has ls 4 [(0, .ref a0), (1, .int x1_29)] → va_P D vwCl [(a0, .inr (3, [.ref a_s, .ref a_past, .ref a_kept, .int zisKept_29, .int zpasts_29, .ref a_text, .int ztyped_29, .ref a_measure, .int zmost1_29, .int zmost3_29, .int zmost5_29, .ref a_chosen, .ref a_ways, .int zspot_29, .int zreason_29, .int zplaces_29, .ref a_owners, .ref a_ranks, .ref a_sets, .ref a_toldAt, .ref a_line])), (a_s, .inl (cI, 37, .inl zs_29)), (a_measure, .inl (cI, 12, .inl zmeasure_29))] H → va_D A [(a0, .inr (3, [.ref a_s, .ref a_past, .ref a_kept, .int zisKept_29, .int zpasts_29, .ref a_text, .int ztyped_29, .ref a_measure, .int zmost1_29, .int zmost3_29, .int zmost5_29, .ref a_chosen, .ref a_ways, .int zspot_29, .int zreason_29, .int zplaces_29, .ref a_owners, .ref a_ranks, .ref a_sets, .ref a_toldAt, .ref a_line])), (a_s, .inl (cI, 37, .inl zs_29)), (a_measure, .inl (cI, 12, .inl zmeasure_29))] → va_S A s.heap H locs → W p l e (rmm 2 51) s m args below meth c H locs 0 0 Q (F0 m 29 ls []) := by
    intro zs_29 zisKept_29 zpasts_29 ztyped_29 zmost1_29 zmost3_29 zmost5_29 zspot_29 zreason_29 zplaces_29 n_29
    induction n_29 with
    | zero => intro x1_29 zmeasure_29 q9 h; exact no_s h
    | succ n_29 ih_29 =>
      intro x1_29 zmeasure_29 q9 h J_29 ls H locs hl hP hD hS
      rw [f_X4_won_L29] at h
      refine lv_iload_n hx hb dX4_won_29 rfl (lv_at hl 1 rfl) ?_
      refine lv_bipush (v := 12) hx hb dX4_won_30 (by decide) ?_
      refine lv_icmp_ge (tgt := 48) hx hb dX4_won_32 (by decide) (fun c7 => ?_) (fun c7 => ?_)
      · have h := itT h c7
        obtain rfl := Option.some.inj h
        exact J_29 _ _ _ (lv_sub hl [0] rfl) hP hD hS
      · have h := itF h c7
        refine lv_aload_n hx hb dX4_won_35 rfl (lv_at hl 0 rfl) ?_
        refine va_get (D := D) (ci := 3) (v := .ref a_measure) (C := RX4) (T := TX4) (N := 21) hx hb hts inG4 hown hK hP 0 rfl rfl 7 (by decide) (hts _ wd2_159) (fun _ h9 => h9) rfl dX4_won_36 ?_
        refine lv_iload_n hx hb dX4_won_39 rfl (lv_at hl 1 rfl) ?_
        refine lv_iconst (v := 0) hx hb dX4_won_40 (by decide) ?_
        obtain ⟨g8, h⟩ := chk_s h
        refine va_iast hx hb hK hP hD hS 2 0 rfl rfl (gi_in g8) dX4_won_41 (fun H locs hP hD hS => ?_)
        have hP : va_P D vwCl [(a0, .inr (3, [.ref a_s, .ref a_past, .ref a_kept, .int zisKept_29, .int zpasts_29, .ref a_text, .int ztyped_29, .ref a_measure, .int zmost1_29, .int zmost3_29, .int zmost5_29, .ref a_chosen, .ref a_ways, .int zspot_29, .int zreason_29, .int zplaces_29, .ref a_owners, .ref a_ranks, .ref a_sets, .ref a_toldAt, .ref a_line])), (a_s, .inl (cI, 37, .inl zs_29)), (a_measure, .inl (cI, 12, .inl (upd zmeasure_29 (Int32.toNatClampNeg x1_29) 0)))] H := hP
        have hD : va_D A [(a0, .inr (3, [.ref a_s, .ref a_past, .ref a_kept, .int zisKept_29, .int zpasts_29, .ref a_text, .int ztyped_29, .ref a_measure, .int zmost1_29, .int zmost3_29, .int zmost5_29, .ref a_chosen, .ref a_ways, .int zspot_29, .int zreason_29, .int zplaces_29, .ref a_owners, .ref a_ranks, .ref a_sets, .ref a_toldAt, .ref a_line])), (a_s, .inl (cI, 37, .inl zs_29)), (a_measure, .inl (cI, 12, .inl (upd zmeasure_29 (Int32.toNatClampNeg x1_29) 0)))] := hD
        refine lv_iinc (v := x1_29 + 1) (lv' := [(1, .int (x1_29 + 1)), (0, .ref a0)]) hx hb dX4_won_42 hl (k := 1) rfl rfl (by decide) rfl (fun ls hl => ?_)
        refine lv_goto (tgt := 29) hx hb dX4_won_45 (by decide) ?_
        exact ih_29 (x1_29 + 1) (upd zmeasure_29 (Int32.toNatClampNeg x1_29) 0) _ h J_29 _ _ _ (lv_sub hl [1, 0] rfl) hP hD hS
  obtain ⟨q10, hb48, h⟩ := bd h
  refine L_29 zs zisKept zpasts ztyped q1 q3 q5 zspot zreason zplaces N 0 zmeasure q10 hb48 ?_ _ _ _ (lv_sub hl [1, 0] rfl) hP hD hS
  intro ls H locs hl hP hD hS
  refine lv_iconst (v := 1) hx hb dX4_won_48 (by decide) ?_
  refine lv_istore_n (lv' := [(1, .int 1), (0, .ref a0)]) hx hb dX4_won_49 rfl hl (by decide) rfl (fun ls hl => ?_)
  have L_50 : ∀ (zs_50 : Nat → Int32) (zisKept_50 : Int32) (zpasts_50 : Int32) (ztyped_50 : Int32) (zmost1_50 : Int32) (zmost3_50 : Int32) (zmost5_50 : Int32) (zspot_50 : Int32) (zreason_50 : Int32) (zplaces_50 : Int32), ∀ (n_50 : Nat) (x1_50 : Int32) (zmeasure_50 : Nat → Int32) (q34 : ((Nat → Int32))), f_X4_won_L50 N zs_50 zmost1_50 zmost3_50 zmost5_50 n_50 x1_50 zmeasure_50 = some q34 → (∀ (ls : Array Slot) (H : Heap) (locs : List Loc), lv_has ls 4 [(0, .ref a0)] → va_P D vwCl [(a0, .inr (3, [.ref a_s, .ref a_past, .ref a_kept, .int zisKept_50, .int zpasts_50, .ref a_text, .int ztyped_50, .ref a_measure, .int zmost1_50, .int zmost3_50, .int zmost5_50, .ref a_chosen, .ref a_ways, .int zspot_50, .int zreason_50, .int zplaces_50, .ref a_owners, .ref a_ranks, .ref a_sets, .ref a_toldAt, .ref a_line])), (a_s, .inl (cI, 37, .inl zs_50)), (a_measure, .inl (cI, 12, .inl q34))] H → va_D A [(a0, .inr (3, [.ref a_s, .ref a_past, .ref a_kept, .int zisKept_50, .int zpasts_50, .ref a_text, .int ztyped_50, .ref a_measure, .int zmost1_50, .int zmost3_50, .int zmost5_50, .ref a_chosen, .ref a_ways, .int zspot_50, .int zreason_50, .int zplaces_50, .ref a_owners, .ref a_ranks, .ref a_sets, .ref a_toldAt, .ref a_line])), (a_s, .inl (cI, 37, .inl zs_50)), (a_measure, .inl (cI, 12, .inl q34))] → va_S A s.heap H locs → W p l e (rmm 2 51) s m args below meth c H locs 0 0 Q (F0 m 129 ls [])) → ∀ (ls : Array Slot) (H : Heap) (locs : List Loc), lv_has ls 4 [(0, .ref a0), (1, .int x1_50)] → va_P D vwCl [(a0, .inr (3, [.ref a_s, .ref a_past, .ref a_kept, .int zisKept_50, .int zpasts_50, .ref a_text, .int ztyped_50, .ref a_measure, .int zmost1_50, .int zmost3_50, .int zmost5_50, .ref a_chosen, .ref a_ways, .int zspot_50, .int zreason_50, .int zplaces_50, .ref a_owners, .ref a_ranks, .ref a_sets, .ref a_toldAt, .ref a_line])), (a_s, .inl (cI, 37, .inl zs_50)), (a_measure, .inl (cI, 12, .inl zmeasure_50))] H → va_D A [(a0, .inr (3, [.ref a_s, .ref a_past, .ref a_kept, .int zisKept_50, .int zpasts_50, .ref a_text, .int ztyped_50, .ref a_measure, .int zmost1_50, .int zmost3_50, .int zmost5_50, .ref a_chosen, .ref a_ways, .int zspot_50, .int zreason_50, .int zplaces_50, .ref a_owners, .ref a_ranks, .ref a_sets, .ref a_toldAt, .ref a_line])), (a_s, .inl (cI, 37, .inl zs_50)), (a_measure, .inl (cI, 12, .inl zmeasure_50))] → va_S A s.heap H locs → W p l e (rmm 2 51) s m args below meth c H locs 0 0 Q (F0 m 50 ls []) := by
    intro zs_50 zisKept_50 zpasts_50 ztyped_50 zmost1_50 zmost3_50 zmost5_50 zspot_50 zreason_50 zplaces_50 n_50
    induction n_50 with
    | zero => intro x1_50 zmeasure_50 q34 h; exact no_s h
    | succ n_50 ih_50 =>
      intro x1_50 zmeasure_50 q34 h J_50 ls H locs hl hP hD hS
      rw [f_X4_won_L50] at h
      refine lv_iload_n hx hb dX4_won_50 rfl (lv_at hl 1 rfl) ?_
      refine lv_if_eq (tgt := 129) hx hb dX4_won_51 (by decide) (fun c11 => ?_) (fun c11 => ?_)
      · have h := itT h c11
        obtain rfl := Option.some.inj h
        exact J_50 _ _ _ (lv_sub hl [0] rfl) hP hD hS
      · have h := itF h c11
        refine lv_iconst (v := 0) hx hb dX4_won_54 (by decide) ?_
        refine lv_istore_n (lv' := [(1, .int 0), (0, .ref a0)]) hx hb dX4_won_55 rfl hl (by decide) rfl (fun ls hl => ?_)
        refine lv_iconst (v := 0) hx hb dX4_won_56 (by decide) ?_
        refine lv_istore_n (lv' := [(2, .int 0), (1, .int 0), (0, .ref a0)]) hx hb dX4_won_57 rfl hl (by decide) rfl (fun ls hl => ?_)
        have L_58 : ∀ (zs_58 : Nat → Int32) (zisKept_58 : Int32) (zpasts_58 : Int32) (ztyped_58 : Int32) (zmost1_58 : Int32) (zmost3_58 : Int32) (zmost5_58 : Int32) (zspot_58 : Int32) (zreason_58 : Int32) (zplaces_58 : Int32), ∀ (n_58 : Nat) (x1_58 : Int32) (x2_58 : Int32) (zmeasure_58 : Nat → Int32) (q31 : (Int32 × (Nat → Int32))), f_X4_won_L58 N zs_58 zmost1_58 zmost3_58 zmost5_58 n_58 x1_58 x2_58 zmeasure_58 = some q31 → (∀ (ls : Array Slot) (H : Heap) (locs : List Loc), lv_has ls 4 [(0, .ref a0), (1, .int q31.1)] → va_P D vwCl [(a0, .inr (3, [.ref a_s, .ref a_past, .ref a_kept, .int zisKept_58, .int zpasts_58, .ref a_text, .int ztyped_58, .ref a_measure, .int zmost1_58, .int zmost3_58, .int zmost5_58, .ref a_chosen, .ref a_ways, .int zspot_58, .int zreason_58, .int zplaces_58, .ref a_owners, .ref a_ranks, .ref a_sets, .ref a_toldAt, .ref a_line])), (a_s, .inl (cI, 37, .inl zs_58)), (a_measure, .inl (cI, 12, .inl q31.2))] H → va_D A [(a0, .inr (3, [.ref a_s, .ref a_past, .ref a_kept, .int zisKept_58, .int zpasts_58, .ref a_text, .int ztyped_58, .ref a_measure, .int zmost1_58, .int zmost3_58, .int zmost5_58, .ref a_chosen, .ref a_ways, .int zspot_58, .int zreason_58, .int zplaces_58, .ref a_owners, .ref a_ranks, .ref a_sets, .ref a_toldAt, .ref a_line])), (a_s, .inl (cI, 37, .inl zs_58)), (a_measure, .inl (cI, 12, .inl q31.2))] → va_S A s.heap H locs → W p l e (rmm 2 51) s m args below meth c H locs 0 0 Q (F0 m 126 ls [])) → ∀ (ls : Array Slot) (H : Heap) (locs : List Loc), lv_has ls 4 [(0, .ref a0), (1, .int x1_58), (2, .int x2_58)] → va_P D vwCl [(a0, .inr (3, [.ref a_s, .ref a_past, .ref a_kept, .int zisKept_58, .int zpasts_58, .ref a_text, .int ztyped_58, .ref a_measure, .int zmost1_58, .int zmost3_58, .int zmost5_58, .ref a_chosen, .ref a_ways, .int zspot_58, .int zreason_58, .int zplaces_58, .ref a_owners, .ref a_ranks, .ref a_sets, .ref a_toldAt, .ref a_line])), (a_s, .inl (cI, 37, .inl zs_58)), (a_measure, .inl (cI, 12, .inl zmeasure_58))] H → va_D A [(a0, .inr (3, [.ref a_s, .ref a_past, .ref a_kept, .int zisKept_58, .int zpasts_58, .ref a_text, .int ztyped_58, .ref a_measure, .int zmost1_58, .int zmost3_58, .int zmost5_58, .ref a_chosen, .ref a_ways, .int zspot_58, .int zreason_58, .int zplaces_58, .ref a_owners, .ref a_ranks, .ref a_sets, .ref a_toldAt, .ref a_line])), (a_s, .inl (cI, 37, .inl zs_58)), (a_measure, .inl (cI, 12, .inl zmeasure_58))] → va_S A s.heap H locs → W p l e (rmm 2 51) s m args below meth c H locs 0 0 Q (F0 m 58 ls []) := by
          intro zs_58 zisKept_58 zpasts_58 ztyped_58 zmost1_58 zmost3_58 zmost5_58 zspot_58 zreason_58 zplaces_58 n_58
          induction n_58 with
          | zero => intro x1_58 x2_58 zmeasure_58 q31 h; exact no_s h
          | succ n_58 ih_58 =>
            intro x1_58 x2_58 zmeasure_58 q31 h J_58 ls H locs hl hP hD hS
            rw [f_X4_won_L58] at h
            refine lv_iload_n hx hb dX4_won_58 rfl (lv_at hl 2 rfl) ?_
            refine lv_aload_n hx hb dX4_won_59 rfl (lv_at hl 0 rfl) ?_
            refine va_get (D := D) (ci := 3) (v := .ref a_s) (C := RX4) (T := TX4) (N := 21) hx hb hts inG4 hown hK hP 0 rfl rfl 0 (by decide) (hts _ wd2_152) (fun _ h9 => h9) rfl dX4_won_60 ?_
            refine lv_iconst (v := 0) hx hb dX4_won_63 (by decide) ?_
            obtain ⟨g12, h⟩ := chk_s h
            refine va_iald hx hb hK hP 1 0 rfl rfl (gi_in g12) dX4_won_64 ?_
            refine lv_icmp_ge (tgt := 126) hx hb dX4_won_65 (by decide) (fun c13 => ?_) (fun c13 => ?_)
            · have h := itT h c13
              obtain rfl := Option.some.inj h
              exact J_58 _ _ _ (lv_sub hl [0, 1] rfl) hP hD hS
            · have h := itF h c13
              refine lv_aload_n hx hb dX4_won_68 rfl (lv_at hl 0 rfl) ?_
              refine lv_iload_n hx hb dX4_won_69 rfl (lv_at hl 2 rfl) ?_
              obtain ⟨q14, hq15, h⟩ := bd h
              refine kvI (ws' := [(a0, .inr (3, [.ref a_s, .ref a_past, .ref a_kept, .int zisKept_58, .int zpasts_58, .ref a_text, .int ztyped_58, .ref a_measure, .int zmost1_58, .int zmost3_58, .int zmost5_58, .ref a_chosen, .ref a_ways, .int zspot_58, .int zreason_58, .int zplaces_58, .ref a_owners, .ref a_ranks, .ref a_sets, .ref a_toldAt, .ref a_line])), (a_s, .inl (cI, 37, .inl zs_58)), (a_measure, .inl (cI, 12, .inl zmeasure_58))]) (wr := []) (As := [.int x2_58]) F (c_X4_lifted l D cI cC cH a0 a_s a_past a_kept a_text a_measure a_chosen a_ways a_owners a_ranks a_sets a_toldAt a_line N x2_58 zs_58 zisKept_58 zpasts_58 ztyped_58 zmeasure_58 zmost1_58 zmost3_58 zmost5_58 zspot_58 zreason_58 zplaces_58 q14 hq15) yfX4_lifted ⟨wd3_30, wd3_32, wdp_25⟩ hP hD hS [0, 1, 2] [] [0, 1, 2] rfl rfl (by decide) (by decide) (by decide) rfl (by decide) 0 3 rfl rfl rfl ⟨Nat.le_of_ble_eq_true rfl, Nat.le_of_ble_eq_true rfl, Nat.zero_le _, Nat.zero_le _⟩ rfl hl rfl (Nat.le_of_ble_eq_true rfl) dX4_won_70 (fun H locs hP hD hS => ?_)
              refine lv_istore_n (lv' := [(3, .int q14), (0, .ref a0), (1, .int x1_58), (2, .int x2_58)]) hx hb dX4_won_73 rfl hl (by decide) rfl (fun ls hl => ?_)
              refine lv_iload_n hx hb dX4_won_74 rfl (lv_at hl 2 rfl) ?_
              obtain ⟨q17, hb30, h⟩ := bd h
              have J18 : ∀ (ls : Array Slot) (H : Heap) (locs : List Loc), lv_has ls 4 [(0, .ref a0), (2, .int x2_58), (3, .int q14)] → va_P D vwCl [(a0, .inr (3, [.ref a_s, .ref a_past, .ref a_kept, .int zisKept_58, .int zpasts_58, .ref a_text, .int ztyped_58, .ref a_measure, .int zmost1_58, .int zmost3_58, .int zmost5_58, .ref a_chosen, .ref a_ways, .int zspot_58, .int zreason_58, .int zplaces_58, .ref a_owners, .ref a_ranks, .ref a_sets, .ref a_toldAt, .ref a_line])), (a_s, .inl (cI, 37, .inl zs_58)), (a_measure, .inl (cI, 12, .inl zmeasure_58))] H → va_D A [(a0, .inr (3, [.ref a_s, .ref a_past, .ref a_kept, .int zisKept_58, .int zpasts_58, .ref a_text, .int ztyped_58, .ref a_measure, .int zmost1_58, .int zmost3_58, .int zmost5_58, .ref a_chosen, .ref a_ways, .int zspot_58, .int zreason_58, .int zplaces_58, .ref a_owners, .ref a_ranks, .ref a_sets, .ref a_toldAt, .ref a_line])), (a_s, .inl (cI, 37, .inl zs_58)), (a_measure, .inl (cI, 12, .inl zmeasure_58))] → va_S A s.heap H locs → W p l e (rmm 2 51) s m args below meth c H locs 0 0 Q (F0 m 93 ls [.int q17]) := by
                intro ls H locs hl hP hD hS
                refine lv_istore_n (lv' := [(1, .int q17), (0, .ref a0), (2, .int x2_58), (3, .int q14)]) hx hb dX4_won_93 rfl hl (by decide) rfl (fun ls hl => ?_)
                refine lv_aload_n hx hb dX4_won_94 rfl (lv_at hl 1 rfl) ?_
                refine va_get (D := D) (ci := 3) (v := .ref a_measure) (C := RX4) (T := TX4) (N := 21) hx hb hts inG4 hown hK hP 0 rfl rfl 7 (by decide) (hts _ wd2_159) (fun _ h9 => h9) rfl dX4_won_95 ?_
                refine lv_iload_n hx hb dX4_won_98 rfl (lv_at hl 2 rfl) ?_
                refine lv_iload_n hx hb dX4_won_99 rfl (lv_at hl 3 rfl) ?_
                refine lv_aload_n hx hb dX4_won_100 rfl (lv_at hl 1 rfl) ?_
                refine va_get (D := D) (ci := 3) (v := .ref a_measure) (C := RX4) (T := TX4) (N := 21) hx hb hts inG4 hown hK hP 0 rfl rfl 7 (by decide) (hts _ wd2_159) (fun _ h9 => h9) rfl dX4_won_101 ?_
                refine lv_iload_n hx hb dX4_won_104 rfl (lv_at hl 2 rfl) ?_
                obtain ⟨g22, h⟩ := chk_s h
                refine va_iald hx hb hK hP 2 0 rfl rfl (gi_in g22) dX4_won_105 ?_
                obtain ⟨q24, hb29, h⟩ := bd h
                have J25 : ∀ (ls : Array Slot) (H : Heap) (locs : List Loc), lv_has ls 4 [(0, .ref a0), (1, .int q17), (2, .int x2_58)] → va_P D vwCl [(a0, .inr (3, [.ref a_s, .ref a_past, .ref a_kept, .int zisKept_58, .int zpasts_58, .ref a_text, .int ztyped_58, .ref a_measure, .int zmost1_58, .int zmost3_58, .int zmost5_58, .ref a_chosen, .ref a_ways, .int zspot_58, .int zreason_58, .int zplaces_58, .ref a_owners, .ref a_ranks, .ref a_sets, .ref a_toldAt, .ref a_line])), (a_s, .inl (cI, 37, .inl zs_58)), (a_measure, .inl (cI, 12, .inl zmeasure_58))] H → va_D A [(a0, .inr (3, [.ref a_s, .ref a_past, .ref a_kept, .int zisKept_58, .int zpasts_58, .ref a_text, .int ztyped_58, .ref a_measure, .int zmost1_58, .int zmost3_58, .int zmost5_58, .ref a_chosen, .ref a_ways, .int zspot_58, .int zreason_58, .int zplaces_58, .ref a_owners, .ref a_ranks, .ref a_sets, .ref a_toldAt, .ref a_line])), (a_s, .inl (cI, 37, .inl zs_58)), (a_measure, .inl (cI, 12, .inl zmeasure_58))] → va_S A s.heap H locs → W p l e (rmm 2 51) s m args below meth c H locs 0 0 Q (F0 m 119 ls [.int q24, .int x2_58, .ref a_measure]) := by
                  intro ls H locs hl hP hD hS
                  obtain ⟨g28, h⟩ := chk_s h
                  refine va_iast hx hb hK hP hD hS 2 0 rfl rfl (gi_in g28) dX4_won_119 (fun H locs hP hD hS => ?_)
                  have hP : va_P D vwCl [(a0, .inr (3, [.ref a_s, .ref a_past, .ref a_kept, .int zisKept_58, .int zpasts_58, .ref a_text, .int ztyped_58, .ref a_measure, .int zmost1_58, .int zmost3_58, .int zmost5_58, .ref a_chosen, .ref a_ways, .int zspot_58, .int zreason_58, .int zplaces_58, .ref a_owners, .ref a_ranks, .ref a_sets, .ref a_toldAt, .ref a_line])), (a_s, .inl (cI, 37, .inl zs_58)), (a_measure, .inl (cI, 12, .inl (upd zmeasure_58 (Int32.toNatClampNeg x2_58) q24)))] H := hP
                  have hD : va_D A [(a0, .inr (3, [.ref a_s, .ref a_past, .ref a_kept, .int zisKept_58, .int zpasts_58, .ref a_text, .int ztyped_58, .ref a_measure, .int zmost1_58, .int zmost3_58, .int zmost5_58, .ref a_chosen, .ref a_ways, .int zspot_58, .int zreason_58, .int zplaces_58, .ref a_owners, .ref a_ranks, .ref a_sets, .ref a_toldAt, .ref a_line])), (a_s, .inl (cI, 37, .inl zs_58)), (a_measure, .inl (cI, 12, .inl (upd zmeasure_58 (Int32.toNatClampNeg x2_58) q24)))] := hD
                  refine lv_iinc (v := x2_58 + 1) (lv' := [(2, .int (x2_58 + 1)), (0, .ref a0), (1, .int q17)]) hx hb dX4_won_120 hl (k := 2) rfl rfl (by decide) rfl (fun ls hl => ?_)
                  refine lv_goto (tgt := 58) hx hb dX4_won_123 (by decide) ?_
                  exact ih_58 q17 (x2_58 + 1) (upd zmeasure_58 (Int32.toNatClampNeg x2_58) q24) _ h J_58 _ _ _ (lv_sub hl [1, 2, 0] rfl) hP hD hS
                clear h
                have h := hb29
                clear hb29
                refine lv_icmp_le (tgt := 113) hx hb dX4_won_106 (by decide) (fun c23 => ?_) (fun c23 => ?_)
                · have h := itT h c23
                  refine lv_aload_n hx hb dX4_won_113 rfl (lv_at hl 1 rfl) ?_
                  refine va_get (D := D) (ci := 3) (v := .ref a_measure) (C := RX4) (T := TX4) (N := 21) hx hb hts inG4 hown hK hP 0 rfl rfl 7 (by decide) (hts _ wd2_159) (fun _ h9 => h9) rfl dX4_won_114 ?_
                  refine lv_iload_n hx hb dX4_won_117 rfl (lv_at hl 2 rfl) ?_
                  obtain ⟨g27, h⟩ := chk_s h
                  refine va_iald hx hb hK hP 2 0 rfl rfl (gi_in g27) dX4_won_118 ?_
                  obtain rfl := Option.some.inj h
                  exact J25 _ _ _ (lv_sub hl [1, 0, 2] rfl) hP hD hS
                · have h := itF h c23
                  refine lv_iload_n hx hb dX4_won_109 rfl (lv_at hl 3 rfl) ?_
                  refine lv_goto (tgt := 119) hx hb dX4_won_110 (by decide) ?_
                  obtain rfl := Option.some.inj h
                  exact J25 _ _ _ (lv_sub hl [1, 0, 2] rfl) hP hD hS
              clear h
              have h := hb30
              clear hb30
              refine lv_if_ne (tgt := 88) hx hb dX4_won_75 (by decide) (fun c16 => ?_) (fun c16 => ?_)
              · have h := itF h c16
                refine lv_iconst (v := 1) hx hb dX4_won_88 (by decide) ?_
                refine lv_goto (tgt := 93) hx hb dX4_won_89 (by decide) ?_
                obtain rfl := Option.some.inj h
                exact J18 _ _ _ (lv_sub hl [1, 3, 0] rfl) hP hD hS
              · have h := itT h c16
                refine lv_iload_n hx hb dX4_won_78 rfl (lv_at hl 0 rfl) ?_
                refine lv_aload_n hx hb dX4_won_79 rfl (lv_at hl 1 rfl) ?_
                refine va_get (D := D) (ci := 3) (v := .ref a_measure) (C := RX4) (T := TX4) (N := 21) hx hb hts inG4 hown hK hP 0 rfl rfl 7 (by decide) (hts _ wd2_159) (fun _ h9 => h9) rfl dX4_won_80 ?_
                refine lv_iload_n hx hb dX4_won_83 rfl (lv_at hl 3 rfl) ?_
                obtain ⟨g20, h⟩ := chk_s h
                refine va_iald hx hb hK hP 2 0 rfl rfl (gi_in g20) dX4_won_84 ?_
                refine lv_icmp_le (tgt := 92) hx hb dX4_won_85 (by decide) (fun c21 => ?_) (fun c21 => ?_)
                · have h := itT h c21
                  refine lv_iconst (v := 0) hx hb dX4_won_92 (by decide) ?_
                  obtain rfl := Option.some.inj h
                  exact J18 _ _ _ (lv_sub hl [1, 3, 0] rfl) hP hD hS
                · have h := itF h c21
                  refine lv_iconst (v := 1) hx hb dX4_won_88 (by decide) ?_
                  refine lv_goto (tgt := 93) hx hb dX4_won_89 (by decide) ?_
                  obtain rfl := Option.some.inj h
                  exact J18 _ _ _ (lv_sub hl [1, 3, 0] rfl) hP hD hS
        obtain ⟨q32, hb33, h⟩ := bd h
        refine L_58 zs_50 zisKept_50 zpasts_50 ztyped_50 zmost1_50 zmost3_50 zmost5_50 zspot_50 zreason_50 zplaces_50 N 0 0 zmeasure_50 q32 hb33 ?_ _ _ _ (lv_sub hl [2, 1, 0] rfl) hP hD hS
        intro ls H locs hl hP hD hS
        refine lv_goto (tgt := 50) hx hb dX4_won_126 (by decide) ?_
        exact ih_50 q32.1 q32.2 _ h J_50 _ _ _ (lv_sub hl [0, 1] rfl) hP hD hS
  obtain ⟨q35, hb47, h⟩ := bd h
  refine L_50 zs zisKept zpasts ztyped q1 q3 q5 zspot zreason zplaces N 1 q10 q35 hb47 ?_ _ _ _ (lv_sub hl [1, 0] rfl) hP hD hS
  intro ls H locs hl hP hD hS
  refine lv_iconst (v := 0) hx hb dX4_won_129 (by decide) ?_
  refine lv_istore_n (lv' := [(2, .int 0), (0, .ref a0)]) hx hb dX4_won_130 rfl hl (by decide) rfl (fun ls hl => ?_)
  refine lv_iconst (v := 0) hx hb dX4_won_131 (by decide) ?_
  refine lv_istore_n (lv' := [(3, .int 0), (2, .int 0), (0, .ref a0)]) hx hb dX4_won_132 rfl hl (by decide) rfl (fun ls hl => ?_)
  have L_133 : ∀ (zs_133 : Nat → Int32) (zisKept_133 : Int32) (zpasts_133 : Int32) (ztyped_133 : Int32) (zmeasure_133 : Nat → Int32) (zmost1_133 : Int32) (zmost3_133 : Int32) (zmost5_133 : Int32) (zspot_133 : Int32) (zreason_133 : Int32) (zplaces_133 : Int32), ∀ (n_133 : Nat) (x2_133 : Int32) (x3_133 : Int32) (q44 : (Int32)), f_X4_won_L133 N zs_133 zmeasure_133 n_133 x2_133 x3_133 = some q44 → (∀ (ls : Array Slot) (H : Heap) (locs : List Loc), lv_has ls 4 [(2, .int q44)] → va_P D vwCl [(a0, .inr (3, [.ref a_s, .ref a_past, .ref a_kept, .int zisKept_133, .int zpasts_133, .ref a_text, .int ztyped_133, .ref a_measure, .int zmost1_133, .int zmost3_133, .int zmost5_133, .ref a_chosen, .ref a_ways, .int zspot_133, .int zreason_133, .int zplaces_133, .ref a_owners, .ref a_ranks, .ref a_sets, .ref a_toldAt, .ref a_line])), (a_s, .inl (cI, 37, .inl zs_133)), (a_measure, .inl (cI, 12, .inl zmeasure_133))] H → va_D A [(a0, .inr (3, [.ref a_s, .ref a_past, .ref a_kept, .int zisKept_133, .int zpasts_133, .ref a_text, .int ztyped_133, .ref a_measure, .int zmost1_133, .int zmost3_133, .int zmost5_133, .ref a_chosen, .ref a_ways, .int zspot_133, .int zreason_133, .int zplaces_133, .ref a_owners, .ref a_ranks, .ref a_sets, .ref a_toldAt, .ref a_line])), (a_s, .inl (cI, 37, .inl zs_133)), (a_measure, .inl (cI, 12, .inl zmeasure_133))] → va_S A s.heap H locs → W p l e (rmm 2 51) s m args below meth c H locs 0 0 Q (F0 m 170 ls [])) → ∀ (ls : Array Slot) (H : Heap) (locs : List Loc), lv_has ls 4 [(0, .ref a0), (2, .int x2_133), (3, .int x3_133)] → va_P D vwCl [(a0, .inr (3, [.ref a_s, .ref a_past, .ref a_kept, .int zisKept_133, .int zpasts_133, .ref a_text, .int ztyped_133, .ref a_measure, .int zmost1_133, .int zmost3_133, .int zmost5_133, .ref a_chosen, .ref a_ways, .int zspot_133, .int zreason_133, .int zplaces_133, .ref a_owners, .ref a_ranks, .ref a_sets, .ref a_toldAt, .ref a_line])), (a_s, .inl (cI, 37, .inl zs_133)), (a_measure, .inl (cI, 12, .inl zmeasure_133))] H → va_D A [(a0, .inr (3, [.ref a_s, .ref a_past, .ref a_kept, .int zisKept_133, .int zpasts_133, .ref a_text, .int ztyped_133, .ref a_measure, .int zmost1_133, .int zmost3_133, .int zmost5_133, .ref a_chosen, .ref a_ways, .int zspot_133, .int zreason_133, .int zplaces_133, .ref a_owners, .ref a_ranks, .ref a_sets, .ref a_toldAt, .ref a_line])), (a_s, .inl (cI, 37, .inl zs_133)), (a_measure, .inl (cI, 12, .inl zmeasure_133))] → va_S A s.heap H locs → W p l e (rmm 2 51) s m args below meth c H locs 0 0 Q (F0 m 133 ls []) := by
    intro zs_133 zisKept_133 zpasts_133 ztyped_133 zmeasure_133 zmost1_133 zmost3_133 zmost5_133 zspot_133 zreason_133 zplaces_133 n_133
    induction n_133 with
    | zero => intro x2_133 x3_133 q44 h; exact no_s h
    | succ n_133 ih_133 =>
      intro x2_133 x3_133 q44 h J_133 ls H locs hl hP hD hS
      rw [f_X4_won_L133] at h
      refine lv_iload_n hx hb dX4_won_133 rfl (lv_at hl 2 rfl) ?_
      refine lv_aload_n hx hb dX4_won_134 rfl (lv_at hl 0 rfl) ?_
      refine va_get (D := D) (ci := 3) (v := .ref a_s) (C := RX4) (T := TX4) (N := 21) hx hb hts inG4 hown hK hP 0 rfl rfl 0 (by decide) (hts _ wd2_152) (fun _ h9 => h9) rfl dX4_won_135 ?_
      refine lv_iconst (v := 0) hx hb dX4_won_138 (by decide) ?_
      obtain ⟨g36, h⟩ := chk_s h
      refine va_iald hx hb hK hP 1 0 rfl rfl (gi_in g36) dX4_won_139 ?_
      refine lv_icmp_ge (tgt := 170) hx hb dX4_won_140 (by decide) (fun c37 => ?_) (fun c37 => ?_)
      · have h := itT h c37
        obtain rfl := Option.some.inj h
        exact J_133 _ _ _ (lv_sub hl [1] rfl) hP hD hS
      · have h := itF h c37
        refine lv_iload_n hx hb dX4_won_143 rfl (lv_at hl 1 rfl) ?_
        refine lv_aload_n hx hb dX4_won_144 rfl (lv_at hl 0 rfl) ?_
        refine va_get (D := D) (ci := 3) (v := .ref a_measure) (C := RX4) (T := TX4) (N := 21) hx hb hts inG4 hown hK hP 0 rfl rfl 7 (by decide) (hts _ wd2_159) (fun _ h9 => h9) rfl dX4_won_145 ?_
        refine lv_iload_n hx hb dX4_won_148 rfl (lv_at hl 2 rfl) ?_
        obtain ⟨g38, h⟩ := chk_s h
        refine va_iald hx hb hK hP 2 0 rfl rfl (gi_in g38) dX4_won_149 ?_
        refine lv_ldc (v := 1000000) hx hb hown (hts _ wd3_34) dX4_won_150 ?_
        obtain ⟨q40, hb43, h⟩ := bd h
        have J41 : ∀ (ls : Array Slot) (H : Heap) (locs : List Loc), lv_has ls 4 [(0, .ref a0), (3, .int x3_133)] → va_P D vwCl [(a0, .inr (3, [.ref a_s, .ref a_past, .ref a_kept, .int zisKept_133, .int zpasts_133, .ref a_text, .int ztyped_133, .ref a_measure, .int zmost1_133, .int zmost3_133, .int zmost5_133, .ref a_chosen, .ref a_ways, .int zspot_133, .int zreason_133, .int zplaces_133, .ref a_owners, .ref a_ranks, .ref a_sets, .ref a_toldAt, .ref a_line])), (a_s, .inl (cI, 37, .inl zs_133)), (a_measure, .inl (cI, 12, .inl zmeasure_133))] H → va_D A [(a0, .inr (3, [.ref a_s, .ref a_past, .ref a_kept, .int zisKept_133, .int zpasts_133, .ref a_text, .int ztyped_133, .ref a_measure, .int zmost1_133, .int zmost3_133, .int zmost5_133, .ref a_chosen, .ref a_ways, .int zspot_133, .int zreason_133, .int zplaces_133, .ref a_owners, .ref a_ranks, .ref a_sets, .ref a_toldAt, .ref a_line])), (a_s, .inl (cI, 37, .inl zs_133)), (a_measure, .inl (cI, 12, .inl zmeasure_133))] → va_S A s.heap H locs → W p l e (rmm 2 51) s m args below meth c H locs 0 0 Q (F0 m 162 ls [.int q40, .int x2_133]) := by
          intro ls H locs hl hP hD hS
          refine lv_ior hx hb dX4_won_162 ?_
          refine lv_istore_n (lv' := [(2, .int (x2_133 ||| q40)), (0, .ref a0), (3, .int x3_133)]) hx hb dX4_won_163 rfl hl (by decide) rfl (fun ls hl => ?_)
          refine lv_iinc (v := x3_133 + 1) (lv' := [(3, .int (x3_133 + 1)), (2, .int (x2_133 ||| q40)), (0, .ref a0)]) hx hb dX4_won_164 hl (k := 2) rfl rfl (by decide) rfl (fun ls hl => ?_)
          refine lv_goto (tgt := 133) hx hb dX4_won_167 (by decide) ?_
          exact ih_133 (x2_133 ||| q40) (x3_133 + 1) _ h J_133 _ _ _ (lv_sub hl [2, 1, 0] rfl) hP hD hS
        clear h
        have h := hb43
        clear hb43
        refine lv_icmp_ge (tgt := 161) hx hb dX4_won_152 (by decide) (fun c39 => ?_) (fun c39 => ?_)
        · have h := itT h c39
          refine lv_iconst (v := 0) hx hb dX4_won_161 (by decide) ?_
          obtain rfl := Option.some.inj h
          exact J41 _ _ _ (lv_sub hl [0, 2] rfl) hP hD hS
        · have h := itF h c39
          refine lv_iconst (v := 1) hx hb dX4_won_155 (by decide) ?_
          refine lv_iload_n hx hb dX4_won_156 rfl (lv_at hl 2 rfl) ?_
          refine lv_ishl hx hb dX4_won_157 ?_
          refine lv_goto (tgt := 162) hx hb dX4_won_158 (by decide) ?_
          obtain rfl := Option.some.inj h
          exact J41 _ _ _ (lv_sub hl [0, 2] rfl) hP hD hS
  obtain ⟨q45, hb46, h⟩ := bd h
  refine L_133 zs zisKept zpasts ztyped q35 q1 q3 q5 zspot zreason zplaces N 0 0 q45 hb46 ?_ _ _ _ (lv_sub hl [2, 1, 0] rfl) hP hD hS
  intro ls H locs hl hP hD hS
  refine lv_iload_n hx hb dX4_won_170 rfl (lv_at hl 0 rfl) ?_
  obtain rfl := Option.some.inj h
  exact hret _ _ _ _ _ rfl hP hD hS dX4_won_171
def f_X4_winner (N : Nat) (x0 : Int32) (x1 : Int32) : Option (Int32) :=
    some (1 - ((x0 >>> (x1 &&& 31)) &&& 1))
set_option maxHeartbeats 4000000 in
set_option maxRecDepth 100000 in
theorem c_X4_winner (l : Launch) (D : va_G) (cI cC cH : ClassId) (N : Nat) (x0 : Int32) (x1 : Int32) (y : Int32) (h : f_X4_winner N x0 x1 = some y) : CTi l yX4_winner cX4_winner 2 (some .int) 0 0 D (tyL cI cC cH) [.int x0, .int x1] [] [] y := by
  unfold f_X4_winner at h
  refine ctI (by decide) (Nat.le_of_ble_eq_true rfl) ?_
  intro p e s m args below meth c A Q ls F hret hP hD hS hl
  have hx := F.1
  have hb := F.2.1
  have hown : s.vm.findClass RX4 = some m.cls := F.2.2.2.1
  have hts := F.2.2.2.2.1
  have hN := F.2.2.2.2.2.1
  have hK := F.2.2.2.2.2.2.1
  have hl : lv_has ls 2 [(0, .int x0), (1, .int x1)] := hl
  refine lv_iconst (v := 1) hx hb dX4_winner_0 (by decide) ?_
  refine lv_iload_n hx hb dX4_winner_1 rfl (lv_at hl 0 rfl) ?_
  refine lv_iload_n hx hb dX4_winner_2 rfl (lv_at hl 1 rfl) ?_
  refine lv_ishr hx hb dX4_winner_3 ?_
  refine lv_iconst (v := 1) hx hb dX4_winner_4 (by decide) ?_
  refine lv_iand hx hb dX4_winner_5 ?_
  refine lv_isub hx hb dX4_winner_6 ?_
  obtain rfl := Option.some.inj h
  exact hret _ _ _ _ _ rfl hP hD hS dX4_winner_7
def f_X4_chooses_L7 (N : Nat) (zs_7 : Nat → Int32) : Nat → Int32 → (Nat → Int32) → (Nat → Int32) → Option ((Nat → Int32) × (Nat → Int32))
  | 0, _, _, _ => none
  | n_7 + 1, x2_7, zchosen_7, zways_7 =>
    chk (gi 0 37) (if (zs_7 (Int32.toNatClampNeg 0)) ≤ x2_7 then (some (zchosen_7, zways_7)) else (chk (gi (25 + x2_7) 37) (chk (gi x2_7 12) (chk (gi x2_7 12) (Option.bind (f_X4_lowest N ((upd zways_7 (Int32.toNatClampNeg x2_7) (zs_7 (Int32.toNatClampNeg (25 + x2_7)))) (Int32.toNatClampNeg x2_7))) (fun q8 => chk (gi x2_7 12) (f_X4_chooses_L7 N zs_7 n_7 (x2_7 + 1) (upd zchosen_7 (Int32.toNatClampNeg x2_7) q8) (upd zways_7 (Int32.toNatClampNeg x2_7) (zs_7 (Int32.toNatClampNeg (25 + x2_7)))))))))))
def f_X4_chooses_L99 (N : Nat) (x1_99 : Int32) (x2_99 : Int32) (zways_99 : Nat → Int32) : Nat → Int32 → Int32 → (Nat → Int32) → (Nat → Int32) → Int32 → Int32 → Int32 → (Nat → Int32) → Option ((Nat → Int32) × (Nat → Int32) × Int32 × Int32 × Int32 × (Nat → Int32))
  | 0, _, _, _, _, _, _, _, _ => none
  | n_99 + 1, x3_99, x4_99, zs_99, zmeasure_99, zmost1_99, zmost3_99, zmost5_99, zchosen_99 =>
    chk (gi 0 37) (if (zs_99 (Int32.toNatClampNeg 0)) ≤ x4_99 then (some (zs_99, zmeasure_99, zmost1_99, zmost3_99, zmost5_99, zchosen_99)) else (if x3_99 = 0 then (chk (gi x2_99 12) (Option.bind (α := Int32 × (Nat → Int32) × (Nat → Int32) × Int32 × Int32 × Int32 × (Nat → Int32)) (if (((zways_99 (Int32.toNatClampNeg x2_99)) >>> (x4_99 &&& 31)) &&& 1) = 1 then (chk (gi (25 + x2_99) 37) (Option.bind (f_X4_won N (upd zs_99 (Int32.toNatClampNeg (25 + x2_99)) ((1 : Int32) <<< (x4_99 &&& 31))) zmeasure_99 zmost1_99 zmost3_99 zmost5_99) (fun q33 => Option.bind (α := Int32) (if q33.1 = x1_99 then (some (1)) else (some (0))) (fun q36 => chk (gi x2_99 12) (some (q36, upd zs_99 (Int32.toNatClampNeg (25 + x2_99)) ((1 : Int32) <<< (x4_99 &&& 31)), q33.2.1, q33.2.2.1, q33.2.2.2.1, q33.2.2.2.2, upd zchosen_99 (Int32.toNatClampNeg x2_99) x4_99)))))) else (some (x3_99, zs_99, zmeasure_99, zmost1_99, zmost3_99, zmost5_99, zchosen_99))) (fun q29 => f_X4_chooses_L99 N x1_99 x2_99 zways_99 n_99 q29.1 (x4_99 + 1) q29.2.1 q29.2.2.1 q29.2.2.2.1 q29.2.2.2.2.1 q29.2.2.2.2.2.1 q29.2.2.2.2.2.2))) else (some (zs_99, zmeasure_99, zmost1_99, zmost3_99, zmost5_99, zchosen_99))))
def f_X4_chooses_L55 (N : Nat) (x1_55 : Int32) (zways_55 : Nat → Int32) : Nat → Int32 → (Nat → Int32) → (Nat → Int32) → Int32 → Int32 → Int32 → (Nat → Int32) → Option ((Nat → Int32) × (Nat → Int32) × Int32 × Int32 × Int32 × (Nat → Int32))
  | 0, _, _, _, _, _, _, _ => none
  | n_55 + 1, x2_55, zs_55, zmeasure_55, zmost1_55, zmost3_55, zmost5_55, zchosen_55 =>
    chk (gi 0 37) (if (zs_55 (Int32.toNatClampNeg 0)) ≤ x2_55 then (some (zs_55, zmeasure_55, zmost1_55, zmost3_55, zmost5_55, zchosen_55)) else (chk (gi (1 + x2_55) 37) (Option.bind (f_X4_winner N x1_55 x2_55) (fun q16 => Option.bind (α := Int32) (if (zs_55 (Int32.toNatClampNeg (1 + x2_55))) = q16 then (chk (gi x2_55 12) (if (zways_55 (Int32.toNatClampNeg x2_55)) = 0 then (some (1)) else (some (0)))) else (some (1))) (fun q19 => Option.bind (f_X4_chooses_L99 N x1_55 x2_55 zways_55 N q19 0 zs_55 zmeasure_55 zmost1_55 zmost3_55 zmost5_55 zchosen_55) (fun q43 => f_X4_chooses_L55 N x1_55 zways_55 n_55 (x2_55 + 1) q43.1 q43.2.1 q43.2.2.1 q43.2.2.2.1 q43.2.2.2.2.1 q43.2.2.2.2.2))))))
def f_X4_chooses_L178 (N : Nat) (zways_178 : Nat → Int32) : Nat → Int32 → (Nat → Int32) → Option ((Nat → Int32))
  | 0, _, _ => none
  | n_178 + 1, x2_178, zs_178 =>
    chk (gi 0 37) (if (zs_178 (Int32.toNatClampNeg 0)) ≤ x2_178 then (some zs_178) else (chk (gi x2_178 12) (chk (gi (25 + x2_178) 37) (f_X4_chooses_L178 N zways_178 n_178 (x2_178 + 1) (upd zs_178 (Int32.toNatClampNeg (25 + x2_178)) (zways_178 (Int32.toNatClampNeg x2_178)))))))
def f_X4_chooses (N : Nat) (zs : Nat → Int32) (zmeasure : Nat → Int32) (zmost1 : Int32) (zmost3 : Int32) (zmost5 : Int32) (zchosen : Nat → Int32) (zways : Nat → Int32) : Option (Int32 × (Nat → Int32) × (Nat → Int32) × Int32 × Int32 × Int32 × (Nat → Int32) × (Nat → Int32)) :=
    Option.bind (f_X4_won N zs zmeasure zmost1 zmost3 zmost5) (fun q1 => Option.bind (f_X4_chooses_L7 N zs N 0 zchosen zways) (fun q12 => Option.bind (f_X4_chooses_L55 N q1.1 q12.2 N 0 zs q1.2.1 q1.2.2.1 q1.2.2.2.1 q1.2.2.2.2 q12.1) (fun q47 => Option.bind (f_X4_chooses_L178 N q12.2 N 0 q47.1) (fun q53 => some (q1.1, q53, q47.2.1, q47.2.2.1, q47.2.2.2.1, q47.2.2.2.2.1, q47.2.2.2.2.2, q12.2)))))
set_option maxHeartbeats 4000000 in
set_option maxRecDepth 100000 in
theorem c_X4_chooses (l : Launch) (D : va_G) (cI cC cH : ClassId) (a0 : Nat) (a_s : Nat) (a_past : Nat) (a_kept : Nat) (a_text : Nat) (a_measure : Nat) (a_chosen : Nat) (a_ways : Nat) (a_owners : Nat) (a_ranks : Nat) (a_sets : Nat) (a_toldAt : Nat) (a_line : Nat) (N : Nat) (zs : Nat → Int32) (zisKept : Int32) (zpasts : Int32) (ztyped : Int32) (zmeasure : Nat → Int32) (zmost1 : Int32) (zmost3 : Int32) (zmost5 : Int32) (zchosen : Nat → Int32) (zways : Nat → Int32) (zspot : Int32) (zreason : Int32) (zplaces : Int32) (y : Int32 × (Nat → Int32) × (Nat → Int32) × Int32 × Int32 × Int32 × (Nat → Int32) × (Nat → Int32)) (h : f_X4_chooses N zs zmeasure zmost1 zmost3 zmost5 zchosen zways = some y) : CTi l yX4_chooses cX4_chooses 5 (some .int) 3 74 D (tyL cI cC cH) [.ref a0] [(a0, .inr (3, [.ref a_s, .ref a_past, .ref a_kept, .int zisKept, .int zpasts, .ref a_text, .int ztyped, .ref a_measure, .int zmost1, .int zmost3, .int zmost5, .ref a_chosen, .ref a_ways, .int zspot, .int zreason, .int zplaces, .ref a_owners, .ref a_ranks, .ref a_sets, .ref a_toldAt, .ref a_line])), (a_s, .inl (cI, 37, .inl zs)), (a_measure, .inl (cI, 12, .inl zmeasure)), (a_chosen, .inl (cI, 12, .inl zchosen)), (a_ways, .inl (cI, 12, .inl zways))] [(a0, .inr (3, [.ref a_s, .ref a_past, .ref a_kept, .int zisKept, .int zpasts, .ref a_text, .int ztyped, .ref a_measure, .int y.2.2.2.1, .int y.2.2.2.2.1, .int y.2.2.2.2.2.1, .ref a_chosen, .ref a_ways, .int zspot, .int zreason, .int zplaces, .ref a_owners, .ref a_ranks, .ref a_sets, .ref a_toldAt, .ref a_line])), (a_s, .inl (cI, 37, .inl y.2.1)), (a_measure, .inl (cI, 12, .inl y.2.2.1)), (a_chosen, .inl (cI, 12, .inl y.2.2.2.2.2.2.1)), (a_ways, .inl (cI, 12, .inl y.2.2.2.2.2.2.2))] y.1 := by
  unfold f_X4_chooses at h
  refine ctI (by decide) (Nat.le_of_ble_eq_true rfl) ?_
  intro p e s m args below meth c A Q ls F hret hP hD hS hl
  have hx := F.1
  have hb := F.2.1
  have hown : s.vm.findClass RX4 = some m.cls := F.2.2.2.1
  have hts := F.2.2.2.2.1
  have hN := F.2.2.2.2.2.1
  have hK := F.2.2.2.2.2.2.1
  have hl : lv_has ls 5 [(0, .ref a0)] := hl
  refine lv_aload_n hx hb dX4_chooses_0 rfl (lv_at hl 0 rfl) ?_
  obtain ⟨q1, hq2, h⟩ := bd h
  refine kvI (ws' := [(a0, .inr (3, [.ref a_s, .ref a_past, .ref a_kept, .int zisKept, .int zpasts, .ref a_text, .int ztyped, .ref a_measure, .int q1.2.2.1, .int q1.2.2.2.1, .int q1.2.2.2.2, .ref a_chosen, .ref a_ways, .int zspot, .int zreason, .int zplaces, .ref a_owners, .ref a_ranks, .ref a_sets, .ref a_toldAt, .ref a_line])), (a_s, .inl (cI, 37, .inl zs)), (a_measure, .inl (cI, 12, .inl q1.2.1)), (a_chosen, .inl (cI, 12, .inl zchosen)), (a_ways, .inl (cI, 12, .inl zways))]) (wr := [(a_chosen, .inl (cI, 12, .inl zchosen)), (a_ways, .inl (cI, 12, .inl zways))]) (As := []) F (c_X4_won l D cI cC cH a0 a_s a_past a_kept a_text a_measure a_chosen a_ways a_owners a_ranks a_sets a_toldAt a_line N zs zisKept zpasts ztyped zmeasure zmost1 zmost3 zmost5 zspot zreason zplaces q1 hq2) yfX4_won ⟨wd3_22, wd3_24, wdp_23⟩ hP hD hS [0, 1, 2] [3, 4] [2, 3, 4, 0, 1] rfl rfl (by decide) (by decide) (by decide) rfl (by decide) 0 3 rfl rfl rfl ⟨Nat.le_of_ble_eq_true rfl, Nat.le_of_ble_eq_true rfl, Nat.zero_le _, Nat.zero_le _⟩ rfl hl rfl (Nat.le_of_ble_eq_true rfl) dX4_chooses_1 (fun H locs hP hD hS => ?_)
  refine lv_istore_n (lv' := [(1, .int q1.1), (0, .ref a0)]) hx hb dX4_chooses_4 rfl hl (by decide) rfl (fun ls hl => ?_)
  refine lv_iconst (v := 0) hx hb dX4_chooses_5 (by decide) ?_
  refine lv_istore_n (lv' := [(2, .int 0), (1, .int q1.1), (0, .ref a0)]) hx hb dX4_chooses_6 rfl hl (by decide) rfl (fun ls hl => ?_)
  have L_7 : ∀ (x1_7 : Int32) (zs_7 : Nat → Int32) (zisKept_7 : Int32) (zpasts_7 : Int32) (ztyped_7 : Int32) (zmeasure_7 : Nat → Int32) (zmost1_7 : Int32) (zmost3_7 : Int32) (zmost5_7 : Int32) (zspot_7 : Int32) (zreason_7 : Int32) (zplaces_7 : Int32), ∀ (n_7 : Nat) (x2_7 : Int32) (zchosen_7 : Nat → Int32) (zways_7 : Nat → Int32) (q11 : ((Nat → Int32) × (Nat → Int32))), f_X4_chooses_L7 N zs_7 n_7 x2_7 zchosen_7 zways_7 = some q11 → (∀ (ls : Array Slot) (H : Heap) (locs : List Loc), lv_has ls 5 [(0, .ref a0), (1, .int x1_7)] → va_P D vwCl [(a0, .inr (3, [.ref a_s, .ref a_past, .ref a_kept, .int zisKept_7, .int zpasts_7, .ref a_text, .int ztyped_7, .ref a_measure, .int zmost1_7, .int zmost3_7, .int zmost5_7, .ref a_chosen, .ref a_ways, .int zspot_7, .int zreason_7, .int zplaces_7, .ref a_owners, .ref a_ranks, .ref a_sets, .ref a_toldAt, .ref a_line])), (a_s, .inl (cI, 37, .inl zs_7)), (a_measure, .inl (cI, 12, .inl zmeasure_7)), (a_chosen, .inl (cI, 12, .inl q11.1)), (a_ways, .inl (cI, 12, .inl q11.2))] H → va_D A [(a0, .inr (3, [.ref a_s, .ref a_past, .ref a_kept, .int zisKept_7, .int zpasts_7, .ref a_text, .int ztyped_7, .ref a_measure, .int zmost1_7, .int zmost3_7, .int zmost5_7, .ref a_chosen, .ref a_ways, .int zspot_7, .int zreason_7, .int zplaces_7, .ref a_owners, .ref a_ranks, .ref a_sets, .ref a_toldAt, .ref a_line])), (a_s, .inl (cI, 37, .inl zs_7)), (a_measure, .inl (cI, 12, .inl zmeasure_7)), (a_chosen, .inl (cI, 12, .inl q11.1)), (a_ways, .inl (cI, 12, .inl q11.2))] → va_S A s.heap H locs → W p l e (rmm 3 74) s m args below meth c H locs 0 0 Q (F0 m 53 ls [])) → ∀ (ls : Array Slot) (H : Heap) (locs : List Loc), lv_has ls 5 [(0, .ref a0), (1, .int x1_7), (2, .int x2_7)] → va_P D vwCl [(a0, .inr (3, [.ref a_s, .ref a_past, .ref a_kept, .int zisKept_7, .int zpasts_7, .ref a_text, .int ztyped_7, .ref a_measure, .int zmost1_7, .int zmost3_7, .int zmost5_7, .ref a_chosen, .ref a_ways, .int zspot_7, .int zreason_7, .int zplaces_7, .ref a_owners, .ref a_ranks, .ref a_sets, .ref a_toldAt, .ref a_line])), (a_s, .inl (cI, 37, .inl zs_7)), (a_measure, .inl (cI, 12, .inl zmeasure_7)), (a_chosen, .inl (cI, 12, .inl zchosen_7)), (a_ways, .inl (cI, 12, .inl zways_7))] H → va_D A [(a0, .inr (3, [.ref a_s, .ref a_past, .ref a_kept, .int zisKept_7, .int zpasts_7, .ref a_text, .int ztyped_7, .ref a_measure, .int zmost1_7, .int zmost3_7, .int zmost5_7, .ref a_chosen, .ref a_ways, .int zspot_7, .int zreason_7, .int zplaces_7, .ref a_owners, .ref a_ranks, .ref a_sets, .ref a_toldAt, .ref a_line])), (a_s, .inl (cI, 37, .inl zs_7)), (a_measure, .inl (cI, 12, .inl zmeasure_7)), (a_chosen, .inl (cI, 12, .inl zchosen_7)), (a_ways, .inl (cI, 12, .inl zways_7))] → va_S A s.heap H locs → W p l e (rmm 3 74) s m args below meth c H locs 0 0 Q (F0 m 7 ls []) := by
    intro x1_7 zs_7 zisKept_7 zpasts_7 ztyped_7 zmeasure_7 zmost1_7 zmost3_7 zmost5_7 zspot_7 zreason_7 zplaces_7 n_7
    induction n_7 with
    | zero => intro x2_7 zchosen_7 zways_7 q11 h; exact no_s h
    | succ n_7 ih_7 =>
      intro x2_7 zchosen_7 zways_7 q11 h J_7 ls H locs hl hP hD hS
      rw [f_X4_chooses_L7] at h
      refine lv_iload_n hx hb dX4_chooses_7 rfl (lv_at hl 2 rfl) ?_
      refine lv_aload_n hx hb dX4_chooses_8 rfl (lv_at hl 0 rfl) ?_
      refine va_get (D := D) (ci := 3) (v := .ref a_s) (C := RX4) (T := TX4) (N := 21) hx hb hts inG4 hown hK hP 0 rfl rfl 0 (by decide) (hts _ wd2_152) (fun _ h9 => h9) rfl dX4_chooses_9 ?_
      refine lv_iconst (v := 0) hx hb dX4_chooses_12 (by decide) ?_
      obtain ⟨g3, h⟩ := chk_s h
      refine va_iald hx hb hK hP 1 0 rfl rfl (gi_in g3) dX4_chooses_13 ?_
      refine lv_icmp_ge (tgt := 53) hx hb dX4_chooses_14 (by decide) (fun c4 => ?_) (fun c4 => ?_)
      · have h := itT h c4
        obtain rfl := Option.some.inj h
        exact J_7 _ _ _ (lv_sub hl [0, 1] rfl) hP hD hS
      · have h := itF h c4
        refine lv_aload_n hx hb dX4_chooses_17 rfl (lv_at hl 0 rfl) ?_
        refine va_get (D := D) (ci := 3) (v := .ref a_ways) (C := RX4) (T := TX4) (N := 21) hx hb hts inG4 hown hK hP 0 rfl rfl 12 (by decide) (hts _ wd2_164) (fun _ h9 => h9) rfl dX4_chooses_18 ?_
        refine lv_iload_n hx hb dX4_chooses_21 rfl (lv_at hl 2 rfl) ?_
        refine lv_aload_n hx hb dX4_chooses_22 rfl (lv_at hl 0 rfl) ?_
        refine va_get (D := D) (ci := 3) (v := .ref a_s) (C := RX4) (T := TX4) (N := 21) hx hb hts inG4 hown hK hP 0 rfl rfl 0 (by decide) (hts _ wd2_152) (fun _ h9 => h9) rfl dX4_chooses_23 ?_
        refine lv_bipush (v := 25) hx hb dX4_chooses_26 (by decide) ?_
        refine lv_iload_n hx hb dX4_chooses_28 rfl (lv_at hl 2 rfl) ?_
        refine lv_iadd hx hb dX4_chooses_29 ?_
        obtain ⟨g5, h⟩ := chk_s h
        refine va_iald hx hb hK hP 1 0 rfl rfl (gi_in g5) dX4_chooses_30 ?_
        obtain ⟨g6, h⟩ := chk_s h
        refine va_iast hx hb hK hP hD hS 4 0 rfl rfl (gi_in g6) dX4_chooses_31 (fun H locs hP hD hS => ?_)
        have hP : va_P D vwCl [(a0, .inr (3, [.ref a_s, .ref a_past, .ref a_kept, .int zisKept_7, .int zpasts_7, .ref a_text, .int ztyped_7, .ref a_measure, .int zmost1_7, .int zmost3_7, .int zmost5_7, .ref a_chosen, .ref a_ways, .int zspot_7, .int zreason_7, .int zplaces_7, .ref a_owners, .ref a_ranks, .ref a_sets, .ref a_toldAt, .ref a_line])), (a_s, .inl (cI, 37, .inl zs_7)), (a_measure, .inl (cI, 12, .inl zmeasure_7)), (a_chosen, .inl (cI, 12, .inl zchosen_7)), (a_ways, .inl (cI, 12, .inl (upd zways_7 (Int32.toNatClampNeg x2_7) (zs_7 (Int32.toNatClampNeg (25 + x2_7))))))] H := hP
        have hD : va_D A [(a0, .inr (3, [.ref a_s, .ref a_past, .ref a_kept, .int zisKept_7, .int zpasts_7, .ref a_text, .int ztyped_7, .ref a_measure, .int zmost1_7, .int zmost3_7, .int zmost5_7, .ref a_chosen, .ref a_ways, .int zspot_7, .int zreason_7, .int zplaces_7, .ref a_owners, .ref a_ranks, .ref a_sets, .ref a_toldAt, .ref a_line])), (a_s, .inl (cI, 37, .inl zs_7)), (a_measure, .inl (cI, 12, .inl zmeasure_7)), (a_chosen, .inl (cI, 12, .inl zchosen_7)), (a_ways, .inl (cI, 12, .inl (upd zways_7 (Int32.toNatClampNeg x2_7) (zs_7 (Int32.toNatClampNeg (25 + x2_7))))))] := hD
        refine lv_aload_n hx hb dX4_chooses_32 rfl (lv_at hl 0 rfl) ?_
        refine va_get (D := D) (ci := 3) (v := .ref a_chosen) (C := RX4) (T := TX4) (N := 21) hx hb hts inG4 hown hK hP 0 rfl rfl 11 (by decide) (hts _ wd2_163) (fun _ h9 => h9) rfl dX4_chooses_33 ?_
        refine lv_iload_n hx hb dX4_chooses_36 rfl (lv_at hl 2 rfl) ?_
        refine lv_aload_n hx hb dX4_chooses_37 rfl (lv_at hl 0 rfl) ?_
        refine va_get (D := D) (ci := 3) (v := .ref a_ways) (C := RX4) (T := TX4) (N := 21) hx hb hts inG4 hown hK hP 0 rfl rfl 12 (by decide) (hts _ wd2_164) (fun _ h9 => h9) rfl dX4_chooses_38 ?_
        refine lv_iload_n hx hb dX4_chooses_41 rfl (lv_at hl 2 rfl) ?_
        obtain ⟨g7, h⟩ := chk_s h
        refine va_iald hx hb hK hP 4 0 rfl rfl (gi_in g7) dX4_chooses_42 ?_
        obtain ⟨q8, hq9, h⟩ := bd h
        refine ks0 (As := [.int ((upd zways_7 (Int32.toNatClampNeg x2_7) (zs_7 (Int32.toNatClampNeg (25 + x2_7)))) (Int32.toNatClampNeg x2_7))]) F (c_X4_lowest l D cI cC cH  N ((upd zways_7 (Int32.toNatClampNeg x2_7) (zs_7 (Int32.toNatClampNeg (25 + x2_7)))) (Int32.toNatClampNeg x2_7)) q8 hq9) yfX4_lowest ⟨wd3_50, wd3_51⟩ hP hD hS ⟨Nat.le_of_ble_eq_true rfl, Nat.le_of_ble_eq_true rfl, Nat.zero_le _, Nat.zero_le _⟩ rfl hl rfl (Nat.le_of_ble_eq_true rfl) dX4_chooses_43 (fun H locs hP hD hS => ?_)
        obtain ⟨g10, h⟩ := chk_s h
        refine va_iast hx hb hK hP hD hS 3 0 rfl rfl (gi_in g10) dX4_chooses_46 (fun H locs hP hD hS => ?_)
        have hP : va_P D vwCl [(a0, .inr (3, [.ref a_s, .ref a_past, .ref a_kept, .int zisKept_7, .int zpasts_7, .ref a_text, .int ztyped_7, .ref a_measure, .int zmost1_7, .int zmost3_7, .int zmost5_7, .ref a_chosen, .ref a_ways, .int zspot_7, .int zreason_7, .int zplaces_7, .ref a_owners, .ref a_ranks, .ref a_sets, .ref a_toldAt, .ref a_line])), (a_s, .inl (cI, 37, .inl zs_7)), (a_measure, .inl (cI, 12, .inl zmeasure_7)), (a_chosen, .inl (cI, 12, .inl (upd zchosen_7 (Int32.toNatClampNeg x2_7) q8))), (a_ways, .inl (cI, 12, .inl (upd zways_7 (Int32.toNatClampNeg x2_7) (zs_7 (Int32.toNatClampNeg (25 + x2_7))))))] H := hP
        have hD : va_D A [(a0, .inr (3, [.ref a_s, .ref a_past, .ref a_kept, .int zisKept_7, .int zpasts_7, .ref a_text, .int ztyped_7, .ref a_measure, .int zmost1_7, .int zmost3_7, .int zmost5_7, .ref a_chosen, .ref a_ways, .int zspot_7, .int zreason_7, .int zplaces_7, .ref a_owners, .ref a_ranks, .ref a_sets, .ref a_toldAt, .ref a_line])), (a_s, .inl (cI, 37, .inl zs_7)), (a_measure, .inl (cI, 12, .inl zmeasure_7)), (a_chosen, .inl (cI, 12, .inl (upd zchosen_7 (Int32.toNatClampNeg x2_7) q8))), (a_ways, .inl (cI, 12, .inl (upd zways_7 (Int32.toNatClampNeg x2_7) (zs_7 (Int32.toNatClampNeg (25 + x2_7))))))] := hD
        refine lv_iinc (v := x2_7 + 1) (lv' := [(2, .int (x2_7 + 1)), (0, .ref a0), (1, .int x1_7)]) hx hb dX4_chooses_47 hl (k := 2) rfl rfl (by decide) rfl (fun ls hl => ?_)
        refine lv_goto (tgt := 7) hx hb dX4_chooses_50 (by decide) ?_
        exact ih_7 (x2_7 + 1) (upd zchosen_7 (Int32.toNatClampNeg x2_7) q8) (upd zways_7 (Int32.toNatClampNeg x2_7) (zs_7 (Int32.toNatClampNeg (25 + x2_7)))) _ h J_7 _ _ _ (lv_sub hl [1, 2, 0] rfl) hP hD hS
  obtain ⟨q12, hb56, h⟩ := bd h
  refine L_7 q1.1 zs zisKept zpasts ztyped q1.2.1 q1.2.2.1 q1.2.2.2.1 q1.2.2.2.2 zspot zreason zplaces N 0 zchosen zways q12 hb56 ?_ _ _ _ (lv_sub hl [2, 1, 0] rfl) hP hD hS
  intro ls H locs hl hP hD hS
  refine lv_iconst (v := 0) hx hb dX4_chooses_53 (by decide) ?_
  refine lv_istore_n (lv' := [(2, .int 0), (0, .ref a0), (1, .int q1.1)]) hx hb dX4_chooses_54 rfl hl (by decide) rfl (fun ls hl => ?_)
  have L_55 : ∀ (x1_55 : Int32) (zisKept_55 : Int32) (zpasts_55 : Int32) (ztyped_55 : Int32) (zways_55 : Nat → Int32) (zspot_55 : Int32) (zreason_55 : Int32) (zplaces_55 : Int32), ∀ (n_55 : Nat) (x2_55 : Int32) (zs_55 : Nat → Int32) (zmeasure_55 : Nat → Int32) (zmost1_55 : Int32) (zmost3_55 : Int32) (zmost5_55 : Int32) (zchosen_55 : Nat → Int32) (q46 : ((Nat → Int32) × (Nat → Int32) × Int32 × Int32 × Int32 × (Nat → Int32))), f_X4_chooses_L55 N x1_55 zways_55 n_55 x2_55 zs_55 zmeasure_55 zmost1_55 zmost3_55 zmost5_55 zchosen_55 = some q46 → (∀ (ls : Array Slot) (H : Heap) (locs : List Loc), lv_has ls 5 [(0, .ref a0), (1, .int x1_55)] → va_P D vwCl [(a0, .inr (3, [.ref a_s, .ref a_past, .ref a_kept, .int zisKept_55, .int zpasts_55, .ref a_text, .int ztyped_55, .ref a_measure, .int q46.2.2.1, .int q46.2.2.2.1, .int q46.2.2.2.2.1, .ref a_chosen, .ref a_ways, .int zspot_55, .int zreason_55, .int zplaces_55, .ref a_owners, .ref a_ranks, .ref a_sets, .ref a_toldAt, .ref a_line])), (a_s, .inl (cI, 37, .inl q46.1)), (a_measure, .inl (cI, 12, .inl q46.2.1)), (a_chosen, .inl (cI, 12, .inl q46.2.2.2.2.2)), (a_ways, .inl (cI, 12, .inl zways_55))] H → va_D A [(a0, .inr (3, [.ref a_s, .ref a_past, .ref a_kept, .int zisKept_55, .int zpasts_55, .ref a_text, .int ztyped_55, .ref a_measure, .int q46.2.2.1, .int q46.2.2.2.1, .int q46.2.2.2.2.1, .ref a_chosen, .ref a_ways, .int zspot_55, .int zreason_55, .int zplaces_55, .ref a_owners, .ref a_ranks, .ref a_sets, .ref a_toldAt, .ref a_line])), (a_s, .inl (cI, 37, .inl q46.1)), (a_measure, .inl (cI, 12, .inl q46.2.1)), (a_chosen, .inl (cI, 12, .inl q46.2.2.2.2.2)), (a_ways, .inl (cI, 12, .inl zways_55))] → va_S A s.heap H locs → W p l e (rmm 3 74) s m args below meth c H locs 0 0 Q (F0 m 176 ls [])) → ∀ (ls : Array Slot) (H : Heap) (locs : List Loc), lv_has ls 5 [(0, .ref a0), (1, .int x1_55), (2, .int x2_55)] → va_P D vwCl [(a0, .inr (3, [.ref a_s, .ref a_past, .ref a_kept, .int zisKept_55, .int zpasts_55, .ref a_text, .int ztyped_55, .ref a_measure, .int zmost1_55, .int zmost3_55, .int zmost5_55, .ref a_chosen, .ref a_ways, .int zspot_55, .int zreason_55, .int zplaces_55, .ref a_owners, .ref a_ranks, .ref a_sets, .ref a_toldAt, .ref a_line])), (a_s, .inl (cI, 37, .inl zs_55)), (a_measure, .inl (cI, 12, .inl zmeasure_55)), (a_chosen, .inl (cI, 12, .inl zchosen_55)), (a_ways, .inl (cI, 12, .inl zways_55))] H → va_D A [(a0, .inr (3, [.ref a_s, .ref a_past, .ref a_kept, .int zisKept_55, .int zpasts_55, .ref a_text, .int ztyped_55, .ref a_measure, .int zmost1_55, .int zmost3_55, .int zmost5_55, .ref a_chosen, .ref a_ways, .int zspot_55, .int zreason_55, .int zplaces_55, .ref a_owners, .ref a_ranks, .ref a_sets, .ref a_toldAt, .ref a_line])), (a_s, .inl (cI, 37, .inl zs_55)), (a_measure, .inl (cI, 12, .inl zmeasure_55)), (a_chosen, .inl (cI, 12, .inl zchosen_55)), (a_ways, .inl (cI, 12, .inl zways_55))] → va_S A s.heap H locs → W p l e (rmm 3 74) s m args below meth c H locs 0 0 Q (F0 m 55 ls []) := by
    intro x1_55 zisKept_55 zpasts_55 ztyped_55 zways_55 zspot_55 zreason_55 zplaces_55 n_55
    induction n_55 with
    | zero => intro x2_55 zs_55 zmeasure_55 zmost1_55 zmost3_55 zmost5_55 zchosen_55 q46 h; exact no_s h
    | succ n_55 ih_55 =>
      intro x2_55 zs_55 zmeasure_55 zmost1_55 zmost3_55 zmost5_55 zchosen_55 q46 h J_55 ls H locs hl hP hD hS
      rw [f_X4_chooses_L55] at h
      refine lv_iload_n hx hb dX4_chooses_55 rfl (lv_at hl 2 rfl) ?_
      refine lv_aload_n hx hb dX4_chooses_56 rfl (lv_at hl 0 rfl) ?_
      refine va_get (D := D) (ci := 3) (v := .ref a_s) (C := RX4) (T := TX4) (N := 21) hx hb hts inG4 hown hK hP 0 rfl rfl 0 (by decide) (hts _ wd2_152) (fun _ h9 => h9) rfl dX4_chooses_57 ?_
      refine lv_iconst (v := 0) hx hb dX4_chooses_60 (by decide) ?_
      obtain ⟨g13, h⟩ := chk_s h
      refine va_iald hx hb hK hP 1 0 rfl rfl (gi_in g13) dX4_chooses_61 ?_
      refine lv_icmp_ge (tgt := 176) hx hb dX4_chooses_62 (by decide) (fun c14 => ?_) (fun c14 => ?_)
      · have h := itT h c14
        obtain rfl := Option.some.inj h
        exact J_55 _ _ _ (lv_sub hl [0, 1] rfl) hP hD hS
      · have h := itF h c14
        refine lv_aload_n hx hb dX4_chooses_65 rfl (lv_at hl 0 rfl) ?_
        refine va_get (D := D) (ci := 3) (v := .ref a_s) (C := RX4) (T := TX4) (N := 21) hx hb hts inG4 hown hK hP 0 rfl rfl 0 (by decide) (hts _ wd2_152) (fun _ h9 => h9) rfl dX4_chooses_66 ?_
        refine lv_iconst (v := 1) hx hb dX4_chooses_69 (by decide) ?_
        refine lv_iload_n hx hb dX4_chooses_70 rfl (lv_at hl 2 rfl) ?_
        refine lv_iadd hx hb dX4_chooses_71 ?_
        obtain ⟨g15, h⟩ := chk_s h
        refine va_iald hx hb hK hP 1 0 rfl rfl (gi_in g15) dX4_chooses_72 ?_
        refine lv_iload_n hx hb dX4_chooses_73 rfl (lv_at hl 1 rfl) ?_
        refine lv_iload_n hx hb dX4_chooses_74 rfl (lv_at hl 2 rfl) ?_
        obtain ⟨q16, hq17, h⟩ := bd h
        refine ks0 (As := [.int x1_55, .int x2_55]) F (c_X4_winner l D cI cC cH  N x1_55 x2_55 q16 hq17) yfX4_winner ⟨wd3_39, wd3_40⟩ hP hD hS ⟨Nat.le_of_ble_eq_true rfl, Nat.le_of_ble_eq_true rfl, Nat.zero_le _, Nat.zero_le _⟩ rfl hl rfl (Nat.le_of_ble_eq_true rfl) dX4_chooses_75 (fun H locs hP hD hS => ?_)
        obtain ⟨q19, hb45, h⟩ := bd h
        have J20 : ∀ (ls : Array Slot) (H : Heap) (locs : List Loc), lv_has ls 5 [(0, .ref a0), (1, .int x1_55), (2, .int x2_55)] → va_P D vwCl [(a0, .inr (3, [.ref a_s, .ref a_past, .ref a_kept, .int zisKept_55, .int zpasts_55, .ref a_text, .int ztyped_55, .ref a_measure, .int zmost1_55, .int zmost3_55, .int zmost5_55, .ref a_chosen, .ref a_ways, .int zspot_55, .int zreason_55, .int zplaces_55, .ref a_owners, .ref a_ranks, .ref a_sets, .ref a_toldAt, .ref a_line])), (a_s, .inl (cI, 37, .inl zs_55)), (a_measure, .inl (cI, 12, .inl zmeasure_55)), (a_chosen, .inl (cI, 12, .inl zchosen_55)), (a_ways, .inl (cI, 12, .inl zways_55))] H → va_D A [(a0, .inr (3, [.ref a_s, .ref a_past, .ref a_kept, .int zisKept_55, .int zpasts_55, .ref a_text, .int ztyped_55, .ref a_measure, .int zmost1_55, .int zmost3_55, .int zmost5_55, .ref a_chosen, .ref a_ways, .int zspot_55, .int zreason_55, .int zplaces_55, .ref a_owners, .ref a_ranks, .ref a_sets, .ref a_toldAt, .ref a_line])), (a_s, .inl (cI, 37, .inl zs_55)), (a_measure, .inl (cI, 12, .inl zmeasure_55)), (a_chosen, .inl (cI, 12, .inl zchosen_55)), (a_ways, .inl (cI, 12, .inl zways_55))] → va_S A s.heap H locs → W p l e (rmm 3 74) s m args below meth c H locs 0 0 Q (F0 m 95 ls [.int q19]) := by
          intro ls H locs hl hP hD hS
          refine lv_istore_n (lv' := [(3, .int q19), (0, .ref a0), (1, .int x1_55), (2, .int x2_55)]) hx hb dX4_chooses_95 rfl hl (by decide) rfl (fun ls hl => ?_)
          refine lv_iconst (v := 0) hx hb dX4_chooses_96 (by decide) ?_
          refine lv_istore (lv' := [(4, .int 0), (3, .int q19), (0, .ref a0), (1, .int x1_55), (2, .int x2_55)]) hx hb dX4_chooses_97 hl (by decide) rfl (fun ls hl => ?_)
          have L_99 : ∀ (x1_99 : Int32) (x2_99 : Int32) (zisKept_99 : Int32) (zpasts_99 : Int32) (ztyped_99 : Int32) (zways_99 : Nat → Int32) (zspot_99 : Int32) (zreason_99 : Int32) (zplaces_99 : Int32), ∀ (n_99 : Nat) (x3_99 : Int32) (x4_99 : Int32) (zs_99 : Nat → Int32) (zmeasure_99 : Nat → Int32) (zmost1_99 : Int32) (zmost3_99 : Int32) (zmost5_99 : Int32) (zchosen_99 : Nat → Int32) (q42 : ((Nat → Int32) × (Nat → Int32) × Int32 × Int32 × Int32 × (Nat → Int32))), f_X4_chooses_L99 N x1_99 x2_99 zways_99 n_99 x3_99 x4_99 zs_99 zmeasure_99 zmost1_99 zmost3_99 zmost5_99 zchosen_99 = some q42 → (∀ (ls : Array Slot) (H : Heap) (locs : List Loc), lv_has ls 5 [(0, .ref a0), (1, .int x1_99), (2, .int x2_99)] → va_P D vwCl [(a0, .inr (3, [.ref a_s, .ref a_past, .ref a_kept, .int zisKept_99, .int zpasts_99, .ref a_text, .int ztyped_99, .ref a_measure, .int q42.2.2.1, .int q42.2.2.2.1, .int q42.2.2.2.2.1, .ref a_chosen, .ref a_ways, .int zspot_99, .int zreason_99, .int zplaces_99, .ref a_owners, .ref a_ranks, .ref a_sets, .ref a_toldAt, .ref a_line])), (a_s, .inl (cI, 37, .inl q42.1)), (a_measure, .inl (cI, 12, .inl q42.2.1)), (a_chosen, .inl (cI, 12, .inl q42.2.2.2.2.2)), (a_ways, .inl (cI, 12, .inl zways_99))] H → va_D A [(a0, .inr (3, [.ref a_s, .ref a_past, .ref a_kept, .int zisKept_99, .int zpasts_99, .ref a_text, .int ztyped_99, .ref a_measure, .int q42.2.2.1, .int q42.2.2.2.1, .int q42.2.2.2.2.1, .ref a_chosen, .ref a_ways, .int zspot_99, .int zreason_99, .int zplaces_99, .ref a_owners, .ref a_ranks, .ref a_sets, .ref a_toldAt, .ref a_line])), (a_s, .inl (cI, 37, .inl q42.1)), (a_measure, .inl (cI, 12, .inl q42.2.1)), (a_chosen, .inl (cI, 12, .inl q42.2.2.2.2.2)), (a_ways, .inl (cI, 12, .inl zways_99))] → va_S A s.heap H locs → W p l e (rmm 3 74) s m args below meth c H locs 0 0 Q (F0 m 170 ls [])) → ∀ (ls : Array Slot) (H : Heap) (locs : List Loc), lv_has ls 5 [(0, .ref a0), (1, .int x1_99), (2, .int x2_99), (3, .int x3_99), (4, .int x4_99)] → va_P D vwCl [(a0, .inr (3, [.ref a_s, .ref a_past, .ref a_kept, .int zisKept_99, .int zpasts_99, .ref a_text, .int ztyped_99, .ref a_measure, .int zmost1_99, .int zmost3_99, .int zmost5_99, .ref a_chosen, .ref a_ways, .int zspot_99, .int zreason_99, .int zplaces_99, .ref a_owners, .ref a_ranks, .ref a_sets, .ref a_toldAt, .ref a_line])), (a_s, .inl (cI, 37, .inl zs_99)), (a_measure, .inl (cI, 12, .inl zmeasure_99)), (a_chosen, .inl (cI, 12, .inl zchosen_99)), (a_ways, .inl (cI, 12, .inl zways_99))] H → va_D A [(a0, .inr (3, [.ref a_s, .ref a_past, .ref a_kept, .int zisKept_99, .int zpasts_99, .ref a_text, .int ztyped_99, .ref a_measure, .int zmost1_99, .int zmost3_99, .int zmost5_99, .ref a_chosen, .ref a_ways, .int zspot_99, .int zreason_99, .int zplaces_99, .ref a_owners, .ref a_ranks, .ref a_sets, .ref a_toldAt, .ref a_line])), (a_s, .inl (cI, 37, .inl zs_99)), (a_measure, .inl (cI, 12, .inl zmeasure_99)), (a_chosen, .inl (cI, 12, .inl zchosen_99)), (a_ways, .inl (cI, 12, .inl zways_99))] → va_S A s.heap H locs → W p l e (rmm 3 74) s m args below meth c H locs 0 0 Q (F0 m 99 ls []) := by
            intro x1_99 x2_99 zisKept_99 zpasts_99 ztyped_99 zways_99 zspot_99 zreason_99 zplaces_99 n_99
            induction n_99 with
            | zero => intro x3_99 x4_99 zs_99 zmeasure_99 zmost1_99 zmost3_99 zmost5_99 zchosen_99 q42 h; exact no_s h
            | succ n_99 ih_99 =>
              intro x3_99 x4_99 zs_99 zmeasure_99 zmost1_99 zmost3_99 zmost5_99 zchosen_99 q42 h J_99 ls H locs hl hP hD hS
              rw [f_X4_chooses_L99] at h
              refine lv_iload hx hb dX4_chooses_99 (lv_at hl 4 rfl) ?_
              refine lv_aload_n hx hb dX4_chooses_101 rfl (lv_at hl 0 rfl) ?_
              refine va_get (D := D) (ci := 3) (v := .ref a_s) (C := RX4) (T := TX4) (N := 21) hx hb hts inG4 hown hK hP 0 rfl rfl 0 (by decide) (hts _ wd2_152) (fun _ h9 => h9) rfl dX4_chooses_102 ?_
              refine lv_iconst (v := 0) hx hb dX4_chooses_105 (by decide) ?_
              obtain ⟨g24, h⟩ := chk_s h
              refine va_iald hx hb hK hP 1 0 rfl rfl (gi_in g24) dX4_chooses_106 ?_
              refine lv_icmp_ge (tgt := 170) hx hb dX4_chooses_107 (by decide) (fun c25 => ?_) (fun c25 => ?_)
              · have h := itT h c25
                obtain rfl := Option.some.inj h
                exact J_99 _ _ _ (lv_sub hl [0, 1, 2] rfl) hP hD hS
              · have h := itF h c25
                refine lv_iload_n hx hb dX4_chooses_110 rfl (lv_at hl 3 rfl) ?_
                refine lv_if_ne (tgt := 170) hx hb dX4_chooses_111 (by decide) (fun c26 => ?_) (fun c26 => ?_)
                · have h := itF h c26
                  obtain rfl := Option.some.inj h
                  exact J_99 _ _ _ (lv_sub hl [0, 1, 2] rfl) hP hD hS
                · have h := itT h c26
                  refine lv_aload_n hx hb dX4_chooses_114 rfl (lv_at hl 0 rfl) ?_
                  refine va_get (D := D) (ci := 3) (v := .ref a_ways) (C := RX4) (T := TX4) (N := 21) hx hb hts inG4 hown hK hP 0 rfl rfl 12 (by decide) (hts _ wd2_164) (fun _ h9 => h9) rfl dX4_chooses_115 ?_
                  refine lv_iload_n hx hb dX4_chooses_118 rfl (lv_at hl 2 rfl) ?_
                  obtain ⟨g27, h⟩ := chk_s h
                  refine va_iald hx hb hK hP 4 0 rfl rfl (gi_in g27) dX4_chooses_119 ?_
                  refine lv_iload hx hb dX4_chooses_120 (lv_at hl 4 rfl) ?_
                  refine lv_ishr hx hb dX4_chooses_122 ?_
                  refine lv_iconst (v := 1) hx hb dX4_chooses_123 (by decide) ?_
                  refine lv_iand hx hb dX4_chooses_124 ?_
                  refine lv_iconst (v := 1) hx hb dX4_chooses_125 (by decide) ?_
                  obtain ⟨q29, hb41, h⟩ := bd h
                  have J30 : ∀ (ls : Array Slot) (H : Heap) (locs : List Loc), lv_has ls 5 [(0, .ref a0), (1, .int x1_99), (2, .int x2_99), (3, .int q29.1), (4, .int x4_99)] → va_P D vwCl [(a0, .inr (3, [.ref a_s, .ref a_past, .ref a_kept, .int zisKept_99, .int zpasts_99, .ref a_text, .int ztyped_99, .ref a_measure, .int q29.2.2.2.1, .int q29.2.2.2.2.1, .int q29.2.2.2.2.2.1, .ref a_chosen, .ref a_ways, .int zspot_99, .int zreason_99, .int zplaces_99, .ref a_owners, .ref a_ranks, .ref a_sets, .ref a_toldAt, .ref a_line])), (a_s, .inl (cI, 37, .inl q29.2.1)), (a_measure, .inl (cI, 12, .inl q29.2.2.1)), (a_chosen, .inl (cI, 12, .inl q29.2.2.2.2.2.2)), (a_ways, .inl (cI, 12, .inl zways_99))] H → va_D A [(a0, .inr (3, [.ref a_s, .ref a_past, .ref a_kept, .int zisKept_99, .int zpasts_99, .ref a_text, .int ztyped_99, .ref a_measure, .int q29.2.2.2.1, .int q29.2.2.2.2.1, .int q29.2.2.2.2.2.1, .ref a_chosen, .ref a_ways, .int zspot_99, .int zreason_99, .int zplaces_99, .ref a_owners, .ref a_ranks, .ref a_sets, .ref a_toldAt, .ref a_line])), (a_s, .inl (cI, 37, .inl q29.2.1)), (a_measure, .inl (cI, 12, .inl q29.2.2.1)), (a_chosen, .inl (cI, 12, .inl q29.2.2.2.2.2.2)), (a_ways, .inl (cI, 12, .inl zways_99))] → va_S A s.heap H locs → W p l e (rmm 3 74) s m args below meth c H locs 0 0 Q (F0 m 164 ls []) := by
                    intro ls H locs hl hP hD hS
                    refine lv_iinc (v := x4_99 + 1) (lv' := [(4, .int (x4_99 + 1)), (0, .ref a0), (1, .int x1_99), (2, .int x2_99), (3, .int q29.1)]) hx hb dX4_chooses_164 hl (k := 4) rfl rfl (by decide) rfl (fun ls hl => ?_)
                    refine lv_goto (tgt := 99) hx hb dX4_chooses_167 (by decide) ?_
                    exact ih_99 q29.1 (x4_99 + 1) q29.2.1 q29.2.2.1 q29.2.2.2.1 q29.2.2.2.2.1 q29.2.2.2.2.2.1 q29.2.2.2.2.2.2 _ h J_99 _ _ _ (lv_sub hl [1, 2, 3, 4, 0] rfl) hP hD hS
                  clear h
                  have h := hb41
                  clear hb41
                  refine lv_icmp_ne (tgt := 164) hx hb dX4_chooses_126 (by decide) (fun c28 => ?_) (fun c28 => ?_)
                  · have h := itF h c28
                    obtain rfl := Option.some.inj h
                    exact J30 _ _ _ (lv_sub hl [0, 1, 2, 3, 4] rfl) hP hD hS
                  · have h := itT h c28
                    refine lv_aload_n hx hb dX4_chooses_129 rfl (lv_at hl 0 rfl) ?_
                    refine va_get (D := D) (ci := 3) (v := .ref a_s) (C := RX4) (T := TX4) (N := 21) hx hb hts inG4 hown hK hP 0 rfl rfl 0 (by decide) (hts _ wd2_152) (fun _ h9 => h9) rfl dX4_chooses_130 ?_
                    refine lv_bipush (v := 25) hx hb dX4_chooses_133 (by decide) ?_
                    refine lv_iload_n hx hb dX4_chooses_135 rfl (lv_at hl 2 rfl) ?_
                    refine lv_iadd hx hb dX4_chooses_136 ?_
                    refine lv_iconst (v := 1) hx hb dX4_chooses_137 (by decide) ?_
                    refine lv_iload hx hb dX4_chooses_138 (lv_at hl 4 rfl) ?_
                    refine lv_ishl hx hb dX4_chooses_140 ?_
                    obtain ⟨g32, h⟩ := chk_s h
                    refine va_iast hx hb hK hP hD hS 1 0 rfl rfl (gi_in g32) dX4_chooses_141 (fun H locs hP hD hS => ?_)
                    have hP : va_P D vwCl [(a0, .inr (3, [.ref a_s, .ref a_past, .ref a_kept, .int zisKept_99, .int zpasts_99, .ref a_text, .int ztyped_99, .ref a_measure, .int zmost1_99, .int zmost3_99, .int zmost5_99, .ref a_chosen, .ref a_ways, .int zspot_99, .int zreason_99, .int zplaces_99, .ref a_owners, .ref a_ranks, .ref a_sets, .ref a_toldAt, .ref a_line])), (a_s, .inl (cI, 37, .inl (upd zs_99 (Int32.toNatClampNeg (25 + x2_99)) ((1 : Int32) <<< (x4_99 &&& 31))))), (a_measure, .inl (cI, 12, .inl zmeasure_99)), (a_chosen, .inl (cI, 12, .inl zchosen_99)), (a_ways, .inl (cI, 12, .inl zways_99))] H := hP
                    have hD : va_D A [(a0, .inr (3, [.ref a_s, .ref a_past, .ref a_kept, .int zisKept_99, .int zpasts_99, .ref a_text, .int ztyped_99, .ref a_measure, .int zmost1_99, .int zmost3_99, .int zmost5_99, .ref a_chosen, .ref a_ways, .int zspot_99, .int zreason_99, .int zplaces_99, .ref a_owners, .ref a_ranks, .ref a_sets, .ref a_toldAt, .ref a_line])), (a_s, .inl (cI, 37, .inl (upd zs_99 (Int32.toNatClampNeg (25 + x2_99)) ((1 : Int32) <<< (x4_99 &&& 31))))), (a_measure, .inl (cI, 12, .inl zmeasure_99)), (a_chosen, .inl (cI, 12, .inl zchosen_99)), (a_ways, .inl (cI, 12, .inl zways_99))] := hD
                    refine lv_aload_n hx hb dX4_chooses_142 rfl (lv_at hl 0 rfl) ?_
                    obtain ⟨q33, hq34, h⟩ := bd h
                    refine kvI (ws' := [(a0, .inr (3, [.ref a_s, .ref a_past, .ref a_kept, .int zisKept_99, .int zpasts_99, .ref a_text, .int ztyped_99, .ref a_measure, .int q33.2.2.1, .int q33.2.2.2.1, .int q33.2.2.2.2, .ref a_chosen, .ref a_ways, .int zspot_99, .int zreason_99, .int zplaces_99, .ref a_owners, .ref a_ranks, .ref a_sets, .ref a_toldAt, .ref a_line])), (a_s, .inl (cI, 37, .inl (upd zs_99 (Int32.toNatClampNeg (25 + x2_99)) ((1 : Int32) <<< (x4_99 &&& 31))))), (a_measure, .inl (cI, 12, .inl q33.2.1)), (a_chosen, .inl (cI, 12, .inl zchosen_99)), (a_ways, .inl (cI, 12, .inl zways_99))]) (wr := [(a_chosen, .inl (cI, 12, .inl zchosen_99)), (a_ways, .inl (cI, 12, .inl zways_99))]) (As := []) F (c_X4_won l D cI cC cH a0 a_s a_past a_kept a_text a_measure a_chosen a_ways a_owners a_ranks a_sets a_toldAt a_line N (upd zs_99 (Int32.toNatClampNeg (25 + x2_99)) ((1 : Int32) <<< (x4_99 &&& 31))) zisKept_99 zpasts_99 ztyped_99 zmeasure_99 zmost1_99 zmost3_99 zmost5_99 zspot_99 zreason_99 zplaces_99 q33 hq34) yfX4_won ⟨wd3_22, wd3_24, wdp_23⟩ hP hD hS [0, 1, 2] [3, 4] [2, 3, 4, 0, 1] rfl rfl (by decide) (by decide) (by decide) rfl (by decide) 0 3 rfl rfl rfl ⟨Nat.le_of_ble_eq_true rfl, Nat.le_of_ble_eq_true rfl, Nat.zero_le _, Nat.zero_le _⟩ rfl hl rfl (Nat.le_of_ble_eq_true rfl) dX4_chooses_143 (fun H locs hP hD hS => ?_)
                    refine lv_iload_n hx hb dX4_chooses_146 rfl (lv_at hl 1 rfl) ?_
                    obtain ⟨q36, hb40, h⟩ := bd h
                    have J37 : ∀ (ls : Array Slot) (H : Heap) (locs : List Loc), lv_has ls 5 [(0, .ref a0), (1, .int x1_99), (2, .int x2_99), (4, .int x4_99)] → va_P D vwCl [(a0, .inr (3, [.ref a_s, .ref a_past, .ref a_kept, .int zisKept_99, .int zpasts_99, .ref a_text, .int ztyped_99, .ref a_measure, .int q33.2.2.1, .int q33.2.2.2.1, .int q33.2.2.2.2, .ref a_chosen, .ref a_ways, .int zspot_99, .int zreason_99, .int zplaces_99, .ref a_owners, .ref a_ranks, .ref a_sets, .ref a_toldAt, .ref a_line])), (a_s, .inl (cI, 37, .inl (upd zs_99 (Int32.toNatClampNeg (25 + x2_99)) ((1 : Int32) <<< (x4_99 &&& 31))))), (a_measure, .inl (cI, 12, .inl q33.2.1)), (a_chosen, .inl (cI, 12, .inl zchosen_99)), (a_ways, .inl (cI, 12, .inl zways_99))] H → va_D A [(a0, .inr (3, [.ref a_s, .ref a_past, .ref a_kept, .int zisKept_99, .int zpasts_99, .ref a_text, .int ztyped_99, .ref a_measure, .int q33.2.2.1, .int q33.2.2.2.1, .int q33.2.2.2.2, .ref a_chosen, .ref a_ways, .int zspot_99, .int zreason_99, .int zplaces_99, .ref a_owners, .ref a_ranks, .ref a_sets, .ref a_toldAt, .ref a_line])), (a_s, .inl (cI, 37, .inl (upd zs_99 (Int32.toNatClampNeg (25 + x2_99)) ((1 : Int32) <<< (x4_99 &&& 31))))), (a_measure, .inl (cI, 12, .inl q33.2.1)), (a_chosen, .inl (cI, 12, .inl zchosen_99)), (a_ways, .inl (cI, 12, .inl zways_99))] → va_S A s.heap H locs → W p l e (rmm 3 74) s m args below meth c H locs 0 0 Q (F0 m 155 ls [.int q36]) := by
                      intro ls H locs hl hP hD hS
                      refine lv_istore_n (lv' := [(3, .int q36), (0, .ref a0), (1, .int x1_99), (2, .int x2_99), (4, .int x4_99)]) hx hb dX4_chooses_155 rfl hl (by decide) rfl (fun ls hl => ?_)
                      refine lv_aload_n hx hb dX4_chooses_156 rfl (lv_at hl 1 rfl) ?_
                      refine va_get (D := D) (ci := 3) (v := .ref a_chosen) (C := RX4) (T := TX4) (N := 21) hx hb hts inG4 hown hK hP 0 rfl rfl 11 (by decide) (hts _ wd2_163) (fun _ h9 => h9) rfl dX4_chooses_157 ?_
                      refine lv_iload_n hx hb dX4_chooses_160 rfl (lv_at hl 3 rfl) ?_
                      refine lv_iload hx hb dX4_chooses_161 (lv_at hl 4 rfl) ?_
                      obtain ⟨g39, h⟩ := chk_s h
                      refine va_iast hx hb hK hP hD hS 3 0 rfl rfl (gi_in g39) dX4_chooses_163 (fun H locs hP hD hS => ?_)
                      have hP : va_P D vwCl [(a0, .inr (3, [.ref a_s, .ref a_past, .ref a_kept, .int zisKept_99, .int zpasts_99, .ref a_text, .int ztyped_99, .ref a_measure, .int q33.2.2.1, .int q33.2.2.2.1, .int q33.2.2.2.2, .ref a_chosen, .ref a_ways, .int zspot_99, .int zreason_99, .int zplaces_99, .ref a_owners, .ref a_ranks, .ref a_sets, .ref a_toldAt, .ref a_line])), (a_s, .inl (cI, 37, .inl (upd zs_99 (Int32.toNatClampNeg (25 + x2_99)) ((1 : Int32) <<< (x4_99 &&& 31))))), (a_measure, .inl (cI, 12, .inl q33.2.1)), (a_chosen, .inl (cI, 12, .inl (upd zchosen_99 (Int32.toNatClampNeg x2_99) x4_99))), (a_ways, .inl (cI, 12, .inl zways_99))] H := hP
                      have hD : va_D A [(a0, .inr (3, [.ref a_s, .ref a_past, .ref a_kept, .int zisKept_99, .int zpasts_99, .ref a_text, .int ztyped_99, .ref a_measure, .int q33.2.2.1, .int q33.2.2.2.1, .int q33.2.2.2.2, .ref a_chosen, .ref a_ways, .int zspot_99, .int zreason_99, .int zplaces_99, .ref a_owners, .ref a_ranks, .ref a_sets, .ref a_toldAt, .ref a_line])), (a_s, .inl (cI, 37, .inl (upd zs_99 (Int32.toNatClampNeg (25 + x2_99)) ((1 : Int32) <<< (x4_99 &&& 31))))), (a_measure, .inl (cI, 12, .inl q33.2.1)), (a_chosen, .inl (cI, 12, .inl (upd zchosen_99 (Int32.toNatClampNeg x2_99) x4_99))), (a_ways, .inl (cI, 12, .inl zways_99))] := hD
                      obtain rfl := Option.some.inj h
                      exact J30 _ _ _ (lv_sub hl [1, 2, 3, 0, 4] rfl) hP hD hS
                    clear h
                    have h := hb40
                    clear hb40
                    refine lv_icmp_ne (tgt := 154) hx hb dX4_chooses_147 (by decide) (fun c35 => ?_) (fun c35 => ?_)
                    · have h := itF h c35
                      refine lv_iconst (v := 0) hx hb dX4_chooses_154 (by decide) ?_
                      obtain rfl := Option.some.inj h
                      exact J37 _ _ _ (lv_sub hl [0, 1, 2, 4] rfl) hP hD hS
                    · have h := itT h c35
                      refine lv_iconst (v := 1) hx hb dX4_chooses_150 (by decide) ?_
                      refine lv_goto (tgt := 155) hx hb dX4_chooses_151 (by decide) ?_
                      obtain rfl := Option.some.inj h
                      exact J37 _ _ _ (lv_sub hl [0, 1, 2, 4] rfl) hP hD hS
          obtain ⟨q43, hb44, h⟩ := bd h
          refine L_99 x1_55 x2_55 zisKept_55 zpasts_55 ztyped_55 zways_55 zspot_55 zreason_55 zplaces_55 N q19 0 zs_55 zmeasure_55 zmost1_55 zmost3_55 zmost5_55 zchosen_55 q43 hb44 ?_ _ _ _ (lv_sub hl [2, 3, 4, 1, 0] rfl) hP hD hS
          intro ls H locs hl hP hD hS
          refine lv_iinc (v := x2_55 + 1) (lv' := [(2, .int (x2_55 + 1)), (0, .ref a0), (1, .int x1_55)]) hx hb dX4_chooses_170 hl (k := 2) rfl rfl (by decide) rfl (fun ls hl => ?_)
          refine lv_goto (tgt := 55) hx hb dX4_chooses_173 (by decide) ?_
          exact ih_55 (x2_55 + 1) q43.1 q43.2.1 q43.2.2.1 q43.2.2.2.1 q43.2.2.2.2.1 q43.2.2.2.2.2 _ h J_55 _ _ _ (lv_sub hl [1, 2, 0] rfl) hP hD hS
        clear h
        have h := hb45
        clear hb45
        refine lv_icmp_ne (tgt := 90) hx hb dX4_chooses_78 (by decide) (fun c18 => ?_) (fun c18 => ?_)
        · have h := itF h c18
          refine lv_iconst (v := 1) hx hb dX4_chooses_90 (by decide) ?_
          refine lv_goto (tgt := 95) hx hb dX4_chooses_91 (by decide) ?_
          obtain rfl := Option.some.inj h
          exact J20 _ _ _ (lv_sub hl [0, 1, 2] rfl) hP hD hS
        · have h := itT h c18
          refine lv_aload_n hx hb dX4_chooses_81 rfl (lv_at hl 0 rfl) ?_
          refine va_get (D := D) (ci := 3) (v := .ref a_ways) (C := RX4) (T := TX4) (N := 21) hx hb hts inG4 hown hK hP 0 rfl rfl 12 (by decide) (hts _ wd2_164) (fun _ h9 => h9) rfl dX4_chooses_82 ?_
          refine lv_iload_n hx hb dX4_chooses_85 rfl (lv_at hl 2 rfl) ?_
          obtain ⟨g22, h⟩ := chk_s h
          refine va_iald hx hb hK hP 4 0 rfl rfl (gi_in g22) dX4_chooses_86 ?_
          refine lv_if_ne (tgt := 94) hx hb dX4_chooses_87 (by decide) (fun c23 => ?_) (fun c23 => ?_)
          · have h := itF h c23
            refine lv_iconst (v := 0) hx hb dX4_chooses_94 (by decide) ?_
            obtain rfl := Option.some.inj h
            exact J20 _ _ _ (lv_sub hl [0, 1, 2] rfl) hP hD hS
          · have h := itT h c23
            refine lv_iconst (v := 1) hx hb dX4_chooses_90 (by decide) ?_
            refine lv_goto (tgt := 95) hx hb dX4_chooses_91 (by decide) ?_
            obtain rfl := Option.some.inj h
            exact J20 _ _ _ (lv_sub hl [0, 1, 2] rfl) hP hD hS
  obtain ⟨q47, hb55, h⟩ := bd h
  refine L_55 q1.1 zisKept zpasts ztyped q12.2 zspot zreason zplaces N 0 zs q1.2.1 q1.2.2.1 q1.2.2.2.1 q1.2.2.2.2 q12.1 q47 hb55 ?_ _ _ _ (lv_sub hl [1, 2, 0] rfl) hP hD hS
  intro ls H locs hl hP hD hS
  refine lv_iconst (v := 0) hx hb dX4_chooses_176 (by decide) ?_
  refine lv_istore_n (lv' := [(2, .int 0), (0, .ref a0), (1, .int q1.1)]) hx hb dX4_chooses_177 rfl hl (by decide) rfl (fun ls hl => ?_)
  have L_178 : ∀ (x1_178 : Int32) (zisKept_178 : Int32) (zpasts_178 : Int32) (ztyped_178 : Int32) (zmeasure_178 : Nat → Int32) (zmost1_178 : Int32) (zmost3_178 : Int32) (zmost5_178 : Int32) (zchosen_178 : Nat → Int32) (zways_178 : Nat → Int32) (zspot_178 : Int32) (zreason_178 : Int32) (zplaces_178 : Int32), ∀ (n_178 : Nat) (x2_178 : Int32) (zs_178 : Nat → Int32) (q52 : ((Nat → Int32))), f_X4_chooses_L178 N zways_178 n_178 x2_178 zs_178 = some q52 → (∀ (ls : Array Slot) (H : Heap) (locs : List Loc), lv_has ls 5 [(1, .int x1_178)] → va_P D vwCl [(a0, .inr (3, [.ref a_s, .ref a_past, .ref a_kept, .int zisKept_178, .int zpasts_178, .ref a_text, .int ztyped_178, .ref a_measure, .int zmost1_178, .int zmost3_178, .int zmost5_178, .ref a_chosen, .ref a_ways, .int zspot_178, .int zreason_178, .int zplaces_178, .ref a_owners, .ref a_ranks, .ref a_sets, .ref a_toldAt, .ref a_line])), (a_s, .inl (cI, 37, .inl q52)), (a_measure, .inl (cI, 12, .inl zmeasure_178)), (a_chosen, .inl (cI, 12, .inl zchosen_178)), (a_ways, .inl (cI, 12, .inl zways_178))] H → va_D A [(a0, .inr (3, [.ref a_s, .ref a_past, .ref a_kept, .int zisKept_178, .int zpasts_178, .ref a_text, .int ztyped_178, .ref a_measure, .int zmost1_178, .int zmost3_178, .int zmost5_178, .ref a_chosen, .ref a_ways, .int zspot_178, .int zreason_178, .int zplaces_178, .ref a_owners, .ref a_ranks, .ref a_sets, .ref a_toldAt, .ref a_line])), (a_s, .inl (cI, 37, .inl q52)), (a_measure, .inl (cI, 12, .inl zmeasure_178)), (a_chosen, .inl (cI, 12, .inl zchosen_178)), (a_ways, .inl (cI, 12, .inl zways_178))] → va_S A s.heap H locs → W p l e (rmm 3 74) s m args below meth c H locs 0 0 Q (F0 m 209 ls [])) → ∀ (ls : Array Slot) (H : Heap) (locs : List Loc), lv_has ls 5 [(0, .ref a0), (1, .int x1_178), (2, .int x2_178)] → va_P D vwCl [(a0, .inr (3, [.ref a_s, .ref a_past, .ref a_kept, .int zisKept_178, .int zpasts_178, .ref a_text, .int ztyped_178, .ref a_measure, .int zmost1_178, .int zmost3_178, .int zmost5_178, .ref a_chosen, .ref a_ways, .int zspot_178, .int zreason_178, .int zplaces_178, .ref a_owners, .ref a_ranks, .ref a_sets, .ref a_toldAt, .ref a_line])), (a_s, .inl (cI, 37, .inl zs_178)), (a_measure, .inl (cI, 12, .inl zmeasure_178)), (a_chosen, .inl (cI, 12, .inl zchosen_178)), (a_ways, .inl (cI, 12, .inl zways_178))] H → va_D A [(a0, .inr (3, [.ref a_s, .ref a_past, .ref a_kept, .int zisKept_178, .int zpasts_178, .ref a_text, .int ztyped_178, .ref a_measure, .int zmost1_178, .int zmost3_178, .int zmost5_178, .ref a_chosen, .ref a_ways, .int zspot_178, .int zreason_178, .int zplaces_178, .ref a_owners, .ref a_ranks, .ref a_sets, .ref a_toldAt, .ref a_line])), (a_s, .inl (cI, 37, .inl zs_178)), (a_measure, .inl (cI, 12, .inl zmeasure_178)), (a_chosen, .inl (cI, 12, .inl zchosen_178)), (a_ways, .inl (cI, 12, .inl zways_178))] → va_S A s.heap H locs → W p l e (rmm 3 74) s m args below meth c H locs 0 0 Q (F0 m 178 ls []) := by
    intro x1_178 zisKept_178 zpasts_178 ztyped_178 zmeasure_178 zmost1_178 zmost3_178 zmost5_178 zchosen_178 zways_178 zspot_178 zreason_178 zplaces_178 n_178
    induction n_178 with
    | zero => intro x2_178 zs_178 q52 h; exact no_s h
    | succ n_178 ih_178 =>
      intro x2_178 zs_178 q52 h J_178 ls H locs hl hP hD hS
      rw [f_X4_chooses_L178] at h
      refine lv_iload_n hx hb dX4_chooses_178 rfl (lv_at hl 2 rfl) ?_
      refine lv_aload_n hx hb dX4_chooses_179 rfl (lv_at hl 0 rfl) ?_
      refine va_get (D := D) (ci := 3) (v := .ref a_s) (C := RX4) (T := TX4) (N := 21) hx hb hts inG4 hown hK hP 0 rfl rfl 0 (by decide) (hts _ wd2_152) (fun _ h9 => h9) rfl dX4_chooses_180 ?_
      refine lv_iconst (v := 0) hx hb dX4_chooses_183 (by decide) ?_
      obtain ⟨g48, h⟩ := chk_s h
      refine va_iald hx hb hK hP 1 0 rfl rfl (gi_in g48) dX4_chooses_184 ?_
      refine lv_icmp_ge (tgt := 209) hx hb dX4_chooses_185 (by decide) (fun c49 => ?_) (fun c49 => ?_)
      · have h := itT h c49
        obtain rfl := Option.some.inj h
        exact J_178 _ _ _ (lv_sub hl [1] rfl) hP hD hS
      · have h := itF h c49
        refine lv_aload_n hx hb dX4_chooses_188 rfl (lv_at hl 0 rfl) ?_
        refine va_get (D := D) (ci := 3) (v := .ref a_s) (C := RX4) (T := TX4) (N := 21) hx hb hts inG4 hown hK hP 0 rfl rfl 0 (by decide) (hts _ wd2_152) (fun _ h9 => h9) rfl dX4_chooses_189 ?_
        refine lv_bipush (v := 25) hx hb dX4_chooses_192 (by decide) ?_
        refine lv_iload_n hx hb dX4_chooses_194 rfl (lv_at hl 2 rfl) ?_
        refine lv_iadd hx hb dX4_chooses_195 ?_
        refine lv_aload_n hx hb dX4_chooses_196 rfl (lv_at hl 0 rfl) ?_
        refine va_get (D := D) (ci := 3) (v := .ref a_ways) (C := RX4) (T := TX4) (N := 21) hx hb hts inG4 hown hK hP 0 rfl rfl 12 (by decide) (hts _ wd2_164) (fun _ h9 => h9) rfl dX4_chooses_197 ?_
        refine lv_iload_n hx hb dX4_chooses_200 rfl (lv_at hl 2 rfl) ?_
        obtain ⟨g50, h⟩ := chk_s h
        refine va_iald hx hb hK hP 4 0 rfl rfl (gi_in g50) dX4_chooses_201 ?_
        obtain ⟨g51, h⟩ := chk_s h
        refine va_iast hx hb hK hP hD hS 1 0 rfl rfl (gi_in g51) dX4_chooses_202 (fun H locs hP hD hS => ?_)
        have hP : va_P D vwCl [(a0, .inr (3, [.ref a_s, .ref a_past, .ref a_kept, .int zisKept_178, .int zpasts_178, .ref a_text, .int ztyped_178, .ref a_measure, .int zmost1_178, .int zmost3_178, .int zmost5_178, .ref a_chosen, .ref a_ways, .int zspot_178, .int zreason_178, .int zplaces_178, .ref a_owners, .ref a_ranks, .ref a_sets, .ref a_toldAt, .ref a_line])), (a_s, .inl (cI, 37, .inl (upd zs_178 (Int32.toNatClampNeg (25 + x2_178)) (zways_178 (Int32.toNatClampNeg x2_178))))), (a_measure, .inl (cI, 12, .inl zmeasure_178)), (a_chosen, .inl (cI, 12, .inl zchosen_178)), (a_ways, .inl (cI, 12, .inl zways_178))] H := hP
        have hD : va_D A [(a0, .inr (3, [.ref a_s, .ref a_past, .ref a_kept, .int zisKept_178, .int zpasts_178, .ref a_text, .int ztyped_178, .ref a_measure, .int zmost1_178, .int zmost3_178, .int zmost5_178, .ref a_chosen, .ref a_ways, .int zspot_178, .int zreason_178, .int zplaces_178, .ref a_owners, .ref a_ranks, .ref a_sets, .ref a_toldAt, .ref a_line])), (a_s, .inl (cI, 37, .inl (upd zs_178 (Int32.toNatClampNeg (25 + x2_178)) (zways_178 (Int32.toNatClampNeg x2_178))))), (a_measure, .inl (cI, 12, .inl zmeasure_178)), (a_chosen, .inl (cI, 12, .inl zchosen_178)), (a_ways, .inl (cI, 12, .inl zways_178))] := hD
        refine lv_iinc (v := x2_178 + 1) (lv' := [(2, .int (x2_178 + 1)), (0, .ref a0), (1, .int x1_178)]) hx hb dX4_chooses_203 hl (k := 2) rfl rfl (by decide) rfl (fun ls hl => ?_)
        refine lv_goto (tgt := 178) hx hb dX4_chooses_206 (by decide) ?_
        exact ih_178 (x2_178 + 1) (upd zs_178 (Int32.toNatClampNeg (25 + x2_178)) (zways_178 (Int32.toNatClampNeg x2_178))) _ h J_178 _ _ _ (lv_sub hl [1, 2, 0] rfl) hP hD hS
  obtain ⟨q53, hb54, h⟩ := bd h
  refine L_178 q1.1 zisKept zpasts ztyped q47.2.1 q47.2.2.1 q47.2.2.2.1 q47.2.2.2.2.1 q47.2.2.2.2.2 q12.2 zspot zreason zplaces N 0 q47.1 q53 hb54 ?_ _ _ _ (lv_sub hl [1, 2, 0] rfl) hP hD hS
  intro ls H locs hl hP hD hS
  refine lv_iload_n hx hb dX4_chooses_209 rfl (lv_at hl 0 rfl) ?_
  obtain rfl := Option.some.inj h
  exact hret _ _ _ _ _ rfl hP hD hS dX4_chooses_210
def f_X4_into_L4 (N : Nat) (x1_4 : Int32) (zs_4 : Nat → Int32) : Nat → Int32 → Int32 → Option (Int32)
  | 0, _, _ => none
  | n_4 + 1, x2_4, x3_4 =>
    chk (gi 0 37) (if (zs_4 (Int32.toNatClampNeg 0)) ≤ x3_4 then (some x2_4) else (Option.bind (f_X4_hasWay N x3_4 x1_4 zs_4) (fun q3 => Option.bind (α := Int32) (if q3 = 0 then (some (0)) else (some ((1 : Int32) <<< (x3_4 &&& 31)))) (fun q6 => f_X4_into_L4 N x1_4 zs_4 n_4 (x2_4 ||| q6) (x3_4 + 1)))))
def f_X4_into (N : Nat) (x1 : Int32) (zs : Nat → Int32) : Option (Int32) :=
    Option.bind (f_X4_into_L4 N x1 zs N 0 0) (fun q11 => some q11)
set_option maxHeartbeats 4000000 in
set_option maxRecDepth 100000 in
theorem c_X4_into (l : Launch) (D : va_G) (cI cC cH : ClassId) (a0 : Nat) (a_s : Nat) (a_past : Nat) (a_kept : Nat) (a_text : Nat) (a_measure : Nat) (a_chosen : Nat) (a_ways : Nat) (a_owners : Nat) (a_ranks : Nat) (a_sets : Nat) (a_toldAt : Nat) (a_line : Nat) (N : Nat) (x1 : Int32) (zs : Nat → Int32) (zisKept : Int32) (zpasts : Int32) (ztyped : Int32) (zmost1 : Int32) (zmost3 : Int32) (zmost5 : Int32) (zspot : Int32) (zreason : Int32) (zplaces : Int32) (y : Int32) (h : f_X4_into N x1 zs = some y) : CTi l yX4_into cX4_into 4 (some .int) 1 22 D (tyL cI cC cH) [.ref a0, .int x1] [(a0, .inr (3, [.ref a_s, .ref a_past, .ref a_kept, .int zisKept, .int zpasts, .ref a_text, .int ztyped, .ref a_measure, .int zmost1, .int zmost3, .int zmost5, .ref a_chosen, .ref a_ways, .int zspot, .int zreason, .int zplaces, .ref a_owners, .ref a_ranks, .ref a_sets, .ref a_toldAt, .ref a_line])), (a_s, .inl (cI, 37, .inl zs))] [(a0, .inr (3, [.ref a_s, .ref a_past, .ref a_kept, .int zisKept, .int zpasts, .ref a_text, .int ztyped, .ref a_measure, .int zmost1, .int zmost3, .int zmost5, .ref a_chosen, .ref a_ways, .int zspot, .int zreason, .int zplaces, .ref a_owners, .ref a_ranks, .ref a_sets, .ref a_toldAt, .ref a_line])), (a_s, .inl (cI, 37, .inl zs))] y := by
  unfold f_X4_into at h
  refine ctI (by decide) (Nat.le_of_ble_eq_true rfl) ?_
  intro p e s m args below meth c A Q ls F hret hP hD hS hl
  have hx := F.1
  have hb := F.2.1
  have hown : s.vm.findClass RX4 = some m.cls := F.2.2.2.1
  have hts := F.2.2.2.2.1
  have hN := F.2.2.2.2.2.1
  have hK := F.2.2.2.2.2.2.1
  have hl : lv_has ls 4 [(0, .ref a0), (1, .int x1)] := hl
  refine lv_iconst (v := 0) hx hb dX4_into_0 (by decide) ?_
  refine lv_istore_n (lv' := [(2, .int 0), (0, .ref a0), (1, .int x1)]) hx hb dX4_into_1 rfl hl (by decide) rfl (fun ls hl => ?_)
  refine lv_iconst (v := 0) hx hb dX4_into_2 (by decide) ?_
  refine lv_istore_n (lv' := [(3, .int 0), (2, .int 0), (0, .ref a0), (1, .int x1)]) hx hb dX4_into_3 rfl hl (by decide) rfl (fun ls hl => ?_)
  have L_4 : ∀ (x1_4 : Int32) (zs_4 : Nat → Int32) (zisKept_4 : Int32) (zpasts_4 : Int32) (ztyped_4 : Int32) (zmost1_4 : Int32) (zmost3_4 : Int32) (zmost5_4 : Int32) (zspot_4 : Int32) (zreason_4 : Int32) (zplaces_4 : Int32), ∀ (n_4 : Nat) (x2_4 : Int32) (x3_4 : Int32) (q10 : (Int32)), f_X4_into_L4 N x1_4 zs_4 n_4 x2_4 x3_4 = some q10 → (∀ (ls : Array Slot) (H : Heap) (locs : List Loc), lv_has ls 4 [(2, .int q10)] → va_P D vwCl [(a0, .inr (3, [.ref a_s, .ref a_past, .ref a_kept, .int zisKept_4, .int zpasts_4, .ref a_text, .int ztyped_4, .ref a_measure, .int zmost1_4, .int zmost3_4, .int zmost5_4, .ref a_chosen, .ref a_ways, .int zspot_4, .int zreason_4, .int zplaces_4, .ref a_owners, .ref a_ranks, .ref a_sets, .ref a_toldAt, .ref a_line])), (a_s, .inl (cI, 37, .inl zs_4))] H → va_D A [(a0, .inr (3, [.ref a_s, .ref a_past, .ref a_kept, .int zisKept_4, .int zpasts_4, .ref a_text, .int ztyped_4, .ref a_measure, .int zmost1_4, .int zmost3_4, .int zmost5_4, .ref a_chosen, .ref a_ways, .int zspot_4, .int zreason_4, .int zplaces_4, .ref a_owners, .ref a_ranks, .ref a_sets, .ref a_toldAt, .ref a_line])), (a_s, .inl (cI, 37, .inl zs_4))] → va_S A s.heap H locs → W p l e (rmm 1 22) s m args below meth c H locs 0 0 Q (F0 m 39 ls [])) → ∀ (ls : Array Slot) (H : Heap) (locs : List Loc), lv_has ls 4 [(0, .ref a0), (1, .int x1_4), (2, .int x2_4), (3, .int x3_4)] → va_P D vwCl [(a0, .inr (3, [.ref a_s, .ref a_past, .ref a_kept, .int zisKept_4, .int zpasts_4, .ref a_text, .int ztyped_4, .ref a_measure, .int zmost1_4, .int zmost3_4, .int zmost5_4, .ref a_chosen, .ref a_ways, .int zspot_4, .int zreason_4, .int zplaces_4, .ref a_owners, .ref a_ranks, .ref a_sets, .ref a_toldAt, .ref a_line])), (a_s, .inl (cI, 37, .inl zs_4))] H → va_D A [(a0, .inr (3, [.ref a_s, .ref a_past, .ref a_kept, .int zisKept_4, .int zpasts_4, .ref a_text, .int ztyped_4, .ref a_measure, .int zmost1_4, .int zmost3_4, .int zmost5_4, .ref a_chosen, .ref a_ways, .int zspot_4, .int zreason_4, .int zplaces_4, .ref a_owners, .ref a_ranks, .ref a_sets, .ref a_toldAt, .ref a_line])), (a_s, .inl (cI, 37, .inl zs_4))] → va_S A s.heap H locs → W p l e (rmm 1 22) s m args below meth c H locs 0 0 Q (F0 m 4 ls []) := by
    intro x1_4 zs_4 zisKept_4 zpasts_4 ztyped_4 zmost1_4 zmost3_4 zmost5_4 zspot_4 zreason_4 zplaces_4 n_4
    induction n_4 with
    | zero => intro x2_4 x3_4 q10 h; exact no_s h
    | succ n_4 ih_4 =>
      intro x2_4 x3_4 q10 h J_4 ls H locs hl hP hD hS
      rw [f_X4_into_L4] at h
      refine lv_iload_n hx hb dX4_into_4 rfl (lv_at hl 3 rfl) ?_
      refine lv_aload_n hx hb dX4_into_5 rfl (lv_at hl 0 rfl) ?_
      refine va_get (D := D) (ci := 3) (v := .ref a_s) (C := RX4) (T := TX4) (N := 21) hx hb hts inG4 hown hK hP 0 rfl rfl 0 (by decide) (hts _ wd2_152) (fun _ h9 => h9) rfl dX4_into_6 ?_
      refine lv_iconst (v := 0) hx hb dX4_into_9 (by decide) ?_
      obtain ⟨g1, h⟩ := chk_s h
      refine va_iald hx hb hK hP 1 0 rfl rfl (gi_in g1) dX4_into_10 ?_
      refine lv_icmp_ge (tgt := 39) hx hb dX4_into_11 (by decide) (fun c2 => ?_) (fun c2 => ?_)
      · have h := itT h c2
        obtain rfl := Option.some.inj h
        exact J_4 _ _ _ (lv_sub hl [2] rfl) hP hD hS
      · have h := itF h c2
        refine lv_iload_n hx hb dX4_into_14 rfl (lv_at hl 2 rfl) ?_
        refine lv_aload_n hx hb dX4_into_15 rfl (lv_at hl 0 rfl) ?_
        refine lv_iload_n hx hb dX4_into_16 rfl (lv_at hl 3 rfl) ?_
        refine lv_iload_n hx hb dX4_into_17 rfl (lv_at hl 1 rfl) ?_
        obtain ⟨q3, hq4, h⟩ := bd h
        refine kvI (ws' := [(a0, .inr (3, [.ref a_s, .ref a_past, .ref a_kept, .int zisKept_4, .int zpasts_4, .ref a_text, .int ztyped_4, .ref a_measure, .int zmost1_4, .int zmost3_4, .int zmost5_4, .ref a_chosen, .ref a_ways, .int zspot_4, .int zreason_4, .int zplaces_4, .ref a_owners, .ref a_ranks, .ref a_sets, .ref a_toldAt, .ref a_line])), (a_s, .inl (cI, 37, .inl zs_4))]) (wr := []) (As := [.int x3_4, .int x1_4]) F (c_X4_hasWay l D cI cC cH a0 a_s a_past a_kept a_text a_measure a_chosen a_ways a_owners a_ranks a_sets a_toldAt a_line N x3_4 x1_4 zs_4 zisKept_4 zpasts_4 ztyped_4 zmost1_4 zmost3_4 zmost5_4 zspot_4 zreason_4 zplaces_4 q3 hq4) yfX4_hasWay ⟨wd3_3, wd3_5, wdp_21⟩ hP hD hS [0, 1] [] [0, 1] rfl rfl (by decide) (by decide) (by decide) rfl (by decide) 0 3 rfl rfl rfl ⟨Nat.le_of_ble_eq_true rfl, Nat.le_of_ble_eq_true rfl, Nat.zero_le _, Nat.zero_le _⟩ rfl hl rfl (Nat.le_of_ble_eq_true rfl) dX4_into_18 (fun H locs hP hD hS => ?_)
        obtain ⟨q6, hb9, h⟩ := bd h
        have J7 : ∀ (ls : Array Slot) (H : Heap) (locs : List Loc), lv_has ls 4 [(0, .ref a0), (1, .int x1_4), (3, .int x3_4)] → va_P D vwCl [(a0, .inr (3, [.ref a_s, .ref a_past, .ref a_kept, .int zisKept_4, .int zpasts_4, .ref a_text, .int ztyped_4, .ref a_measure, .int zmost1_4, .int zmost3_4, .int zmost5_4, .ref a_chosen, .ref a_ways, .int zspot_4, .int zreason_4, .int zplaces_4, .ref a_owners, .ref a_ranks, .ref a_sets, .ref a_toldAt, .ref a_line])), (a_s, .inl (cI, 37, .inl zs_4))] H → va_D A [(a0, .inr (3, [.ref a_s, .ref a_past, .ref a_kept, .int zisKept_4, .int zpasts_4, .ref a_text, .int ztyped_4, .ref a_measure, .int zmost1_4, .int zmost3_4, .int zmost5_4, .ref a_chosen, .ref a_ways, .int zspot_4, .int zreason_4, .int zplaces_4, .ref a_owners, .ref a_ranks, .ref a_sets, .ref a_toldAt, .ref a_line])), (a_s, .inl (cI, 37, .inl zs_4))] → va_S A s.heap H locs → W p l e (rmm 1 22) s m args below meth c H locs 0 0 Q (F0 m 31 ls [.int q6, .int x2_4]) := by
          intro ls H locs hl hP hD hS
          refine lv_ior hx hb dX4_into_31 ?_
          refine lv_istore_n (lv' := [(2, .int (x2_4 ||| q6)), (0, .ref a0), (1, .int x1_4), (3, .int x3_4)]) hx hb dX4_into_32 rfl hl (by decide) rfl (fun ls hl => ?_)
          refine lv_iinc (v := x3_4 + 1) (lv' := [(3, .int (x3_4 + 1)), (2, .int (x2_4 ||| q6)), (0, .ref a0), (1, .int x1_4)]) hx hb dX4_into_33 hl (k := 3) rfl rfl (by decide) rfl (fun ls hl => ?_)
          refine lv_goto (tgt := 4) hx hb dX4_into_36 (by decide) ?_
          exact ih_4 (x2_4 ||| q6) (x3_4 + 1) _ h J_4 _ _ _ (lv_sub hl [2, 3, 1, 0] rfl) hP hD hS
        clear h
        have h := hb9
        clear hb9
        refine lv_if_eq (tgt := 30) hx hb dX4_into_21 (by decide) (fun c5 => ?_) (fun c5 => ?_)
        · have h := itT h c5
          refine lv_iconst (v := 0) hx hb dX4_into_30 (by decide) ?_
          obtain rfl := Option.some.inj h
          exact J7 _ _ _ (lv_sub hl [0, 1, 3] rfl) hP hD hS
        · have h := itF h c5
          refine lv_iconst (v := 1) hx hb dX4_into_24 (by decide) ?_
          refine lv_iload_n hx hb dX4_into_25 rfl (lv_at hl 3 rfl) ?_
          refine lv_ishl hx hb dX4_into_26 ?_
          refine lv_goto (tgt := 31) hx hb dX4_into_27 (by decide) ?_
          obtain rfl := Option.some.inj h
          exact J7 _ _ _ (lv_sub hl [0, 1, 3] rfl) hP hD hS
  obtain ⟨q11, hb12, h⟩ := bd h
  refine L_4 x1 zs zisKept zpasts ztyped zmost1 zmost3 zmost5 zspot zreason zplaces N 0 0 q11 hb12 ?_ _ _ _ (lv_sub hl [2, 3, 1, 0] rfl) hP hD hS
  intro ls H locs hl hP hD hS
  refine lv_iload_n hx hb dX4_into_39 rfl (lv_at hl 0 rfl) ?_
  obtain rfl := Option.some.inj h
  exact hret _ _ _ _ _ rfl hP hD hS dX4_into_40
def f_X4_choiceAt (N : Nat) (x1 : Int32) (zs : Nat → Int32) (zmeasure : Nat → Int32) (zmost1 : Int32) (zmost3 : Int32) (zmost5 : Int32) (zchosen : Nat → Int32) (zways : Nat → Int32) : Option (Int32 × (Nat → Int32) × (Nat → Int32) × Int32 × Int32 × Int32 × (Nat → Int32) × (Nat → Int32)) :=
    Option.bind (f_X4_chooses N zs zmeasure zmost1 zmost3 zmost5 zchosen zways) (fun q1 => if 0 ≤ q1.1 then (chk (gi x1 12) (some (q1.2.2.2.2.2.2.1 (Int32.toNatClampNeg x1), q1.2.1, q1.2.2.1, q1.2.2.2.1, q1.2.2.2.2.1, q1.2.2.2.2.2.1, q1.2.2.2.2.2.2.1, q1.2.2.2.2.2.2.2))) else (some ((-4), q1.2.1, q1.2.2.1, q1.2.2.2.1, q1.2.2.2.2.1, q1.2.2.2.2.2.1, q1.2.2.2.2.2.2.1, q1.2.2.2.2.2.2.2)))
set_option maxHeartbeats 4000000 in
set_option maxRecDepth 100000 in
theorem c_X4_choiceAt (l : Launch) (D : va_G) (cI cC cH : ClassId) (a0 : Nat) (a_s : Nat) (a_past : Nat) (a_kept : Nat) (a_text : Nat) (a_measure : Nat) (a_chosen : Nat) (a_ways : Nat) (a_owners : Nat) (a_ranks : Nat) (a_sets : Nat) (a_toldAt : Nat) (a_line : Nat) (N : Nat) (x1 : Int32) (zs : Nat → Int32) (zisKept : Int32) (zpasts : Int32) (ztyped : Int32) (zmeasure : Nat → Int32) (zmost1 : Int32) (zmost3 : Int32) (zmost5 : Int32) (zchosen : Nat → Int32) (zways : Nat → Int32) (zspot : Int32) (zreason : Int32) (zplaces : Int32) (y : Int32 × (Nat → Int32) × (Nat → Int32) × Int32 × Int32 × Int32 × (Nat → Int32) × (Nat → Int32)) (h : f_X4_choiceAt N x1 zs zmeasure zmost1 zmost3 zmost5 zchosen zways = some y) : CTi l yX4_choiceAt cX4_choiceAt 2 (some .int) 4 98 D (tyL cI cC cH) [.ref a0, .int x1] [(a0, .inr (3, [.ref a_s, .ref a_past, .ref a_kept, .int zisKept, .int zpasts, .ref a_text, .int ztyped, .ref a_measure, .int zmost1, .int zmost3, .int zmost5, .ref a_chosen, .ref a_ways, .int zspot, .int zreason, .int zplaces, .ref a_owners, .ref a_ranks, .ref a_sets, .ref a_toldAt, .ref a_line])), (a_s, .inl (cI, 37, .inl zs)), (a_measure, .inl (cI, 12, .inl zmeasure)), (a_chosen, .inl (cI, 12, .inl zchosen)), (a_ways, .inl (cI, 12, .inl zways))] [(a0, .inr (3, [.ref a_s, .ref a_past, .ref a_kept, .int zisKept, .int zpasts, .ref a_text, .int ztyped, .ref a_measure, .int y.2.2.2.1, .int y.2.2.2.2.1, .int y.2.2.2.2.2.1, .ref a_chosen, .ref a_ways, .int zspot, .int zreason, .int zplaces, .ref a_owners, .ref a_ranks, .ref a_sets, .ref a_toldAt, .ref a_line])), (a_s, .inl (cI, 37, .inl y.2.1)), (a_measure, .inl (cI, 12, .inl y.2.2.1)), (a_chosen, .inl (cI, 12, .inl y.2.2.2.2.2.2.1)), (a_ways, .inl (cI, 12, .inl y.2.2.2.2.2.2.2))] y.1 := by
  unfold f_X4_choiceAt at h
  refine ctI (by decide) (Nat.le_of_ble_eq_true rfl) ?_
  intro p e s m args below meth c A Q ls F hret hP hD hS hl
  have hx := F.1
  have hb := F.2.1
  have hown : s.vm.findClass RX4 = some m.cls := F.2.2.2.1
  have hts := F.2.2.2.2.1
  have hN := F.2.2.2.2.2.1
  have hK := F.2.2.2.2.2.2.1
  have hl : lv_has ls 2 [(0, .ref a0), (1, .int x1)] := hl
  refine lv_aload_n hx hb dX4_choiceAt_0 rfl (lv_at hl 0 rfl) ?_
  obtain ⟨q1, hq2, h⟩ := bd h
  refine kvI (ws' := [(a0, .inr (3, [.ref a_s, .ref a_past, .ref a_kept, .int zisKept, .int zpasts, .ref a_text, .int ztyped, .ref a_measure, .int q1.2.2.2.1, .int q1.2.2.2.2.1, .int q1.2.2.2.2.2.1, .ref a_chosen, .ref a_ways, .int zspot, .int zreason, .int zplaces, .ref a_owners, .ref a_ranks, .ref a_sets, .ref a_toldAt, .ref a_line])), (a_s, .inl (cI, 37, .inl q1.2.1)), (a_measure, .inl (cI, 12, .inl q1.2.2.1)), (a_chosen, .inl (cI, 12, .inl q1.2.2.2.2.2.2.1)), (a_ways, .inl (cI, 12, .inl q1.2.2.2.2.2.2.2))]) (wr := []) (As := []) F (c_X4_chooses l D cI cC cH a0 a_s a_past a_kept a_text a_measure a_chosen a_ways a_owners a_ranks a_sets a_toldAt a_line N zs zisKept zpasts ztyped zmeasure zmost1 zmost3 zmost5 zchosen zways zspot zreason zplaces q1 hq2) yfX4_chooses ⟨wd3_46, wd3_48, wdp_28⟩ hP hD hS [0, 1, 2, 3, 4] [] [0, 1, 2, 3, 4] rfl rfl (by decide) (by decide) (by decide) rfl (by decide) 0 3 rfl rfl rfl ⟨Nat.le_of_ble_eq_true rfl, Nat.le_of_ble_eq_true rfl, Nat.zero_le _, Nat.zero_le _⟩ rfl hl rfl (Nat.le_of_ble_eq_true rfl) dX4_choiceAt_1 (fun H locs hP hD hS => ?_)
  refine lv_if_ge (tgt := 12) hx hb dX4_choiceAt_4 (by decide) (fun c3 => ?_) (fun c3 => ?_)
  · have h := itT h c3
    refine lv_aload_n hx hb dX4_choiceAt_12 rfl (lv_at hl 0 rfl) ?_
    refine va_get (D := D) (ci := 3) (v := .ref a_chosen) (C := RX4) (T := TX4) (N := 21) hx hb hts inG4 hown hK hP 0 rfl rfl 11 (by decide) (hts _ wd2_163) (fun _ h9 => h9) rfl dX4_choiceAt_13 ?_
    refine lv_iload_n hx hb dX4_choiceAt_16 rfl (lv_at hl 1 rfl) ?_
    obtain ⟨g4, h⟩ := chk_s h
    refine va_iald hx hb hK hP 3 0 rfl rfl (gi_in g4) dX4_choiceAt_17 ?_
    obtain rfl := Option.some.inj h
    exact hret _ _ _ _ _ rfl hP hD hS dX4_choiceAt_18
  · have h := itF h c3
    refine lv_bipush (v := (-4)) hx hb dX4_choiceAt_7 (by decide) ?_
    refine lv_goto (tgt := 18) hx hb dX4_choiceAt_9 (by decide) ?_
    obtain rfl := Option.some.inj h
    exact hret _ _ _ _ _ rfl hP hD hS dX4_choiceAt_18
def f_X4_placeOf (N : Nat) (x1 : Int32) (x2 : Int32) (zs : Nat → Int32) (zmeasure : Nat → Int32) (zmost1 : Int32) (zmost3 : Int32) (zmost5 : Int32) (zchosen : Nat → Int32) (zways : Nat → Int32) : Option (Int32 × (Nat → Int32) × (Nat → Int32) × Int32 × Int32 × Int32 × (Nat → Int32) × (Nat → Int32)) :=
    Option.bind (f_X4_isPlace N x1 zs) (fun q1 => if q1 = 0 then (some ((-1), zs, zmeasure, zmost1, zmost3, zmost5, zchosen, zways)) else (Option.bind (f_X4_in N x2 0 5) (fun q4 => if q4 = 0 then (some ((-1), zs, zmeasure, zmost1, zmost3, zmost5, zchosen, zways)) else (if x2 = 0 then (chk (gi (1 + x1) 37) (some (zs (Int32.toNatClampNeg (1 + x1)), zs, zmeasure, zmost1, zmost3, zmost5, zchosen, zways))) else (if x2 = 1 then (chk (gi (13 + x1) 37) (some (zs (Int32.toNatClampNeg (13 + x1)), zs, zmeasure, zmost1, zmost3, zmost5, zchosen, zways))) else (if x2 = 2 then (chk (gi (25 + x1) 37) (some (zs (Int32.toNatClampNeg (25 + x1)), zs, zmeasure, zmost1, zmost3, zmost5, zchosen, zways))) else (if x2 = 3 then (Option.bind (f_X4_into N x1 zs) (fun q18 => some (q18, zs, zmeasure, zmost1, zmost3, zmost5, zchosen, zways))) else (if x2 = 4 then (Option.bind (f_X4_won N zs zmeasure zmost1 zmost3 zmost5) (fun q14 => Option.bind (f_X4_winner N q14.1 x1) (fun q16 => some (q16, zs, q14.2.1, q14.2.2.1, q14.2.2.2.1, q14.2.2.2.2, zchosen, zways)))) else (Option.bind (f_X4_choiceAt N x1 zs zmeasure zmost1 zmost3 zmost5 zchosen zways) (fun q7 => some (q7.1, q7.2.1, q7.2.2.1, q7.2.2.2.1, q7.2.2.2.2.1, q7.2.2.2.2.2.1, q7.2.2.2.2.2.2.1, q7.2.2.2.2.2.2.2)))))))))))
set_option maxHeartbeats 4000000 in
set_option maxRecDepth 100000 in
theorem c_X4_placeOf (l : Launch) (D : va_G) (cI cC cH : ClassId) (a0 : Nat) (a_s : Nat) (a_past : Nat) (a_kept : Nat) (a_text : Nat) (a_measure : Nat) (a_chosen : Nat) (a_ways : Nat) (a_owners : Nat) (a_ranks : Nat) (a_sets : Nat) (a_toldAt : Nat) (a_line : Nat) (N : Nat) (x1 : Int32) (x2 : Int32) (zs : Nat → Int32) (zisKept : Int32) (zpasts : Int32) (ztyped : Int32) (zmeasure : Nat → Int32) (zmost1 : Int32) (zmost3 : Int32) (zmost5 : Int32) (zchosen : Nat → Int32) (zways : Nat → Int32) (zspot : Int32) (zreason : Int32) (zplaces : Int32) (y : Int32 × (Nat → Int32) × (Nat → Int32) × Int32 × Int32 × Int32 × (Nat → Int32) × (Nat → Int32)) (h : f_X4_placeOf N x1 x2 zs zmeasure zmost1 zmost3 zmost5 zchosen zways = some y) : CTi l yX4_placeOf cX4_placeOf 3 (some .int) 5 119 D (tyL cI cC cH) [.ref a0, .int x1, .int x2] [(a0, .inr (3, [.ref a_s, .ref a_past, .ref a_kept, .int zisKept, .int zpasts, .ref a_text, .int ztyped, .ref a_measure, .int zmost1, .int zmost3, .int zmost5, .ref a_chosen, .ref a_ways, .int zspot, .int zreason, .int zplaces, .ref a_owners, .ref a_ranks, .ref a_sets, .ref a_toldAt, .ref a_line])), (a_s, .inl (cI, 37, .inl zs)), (a_measure, .inl (cI, 12, .inl zmeasure)), (a_chosen, .inl (cI, 12, .inl zchosen)), (a_ways, .inl (cI, 12, .inl zways))] [(a0, .inr (3, [.ref a_s, .ref a_past, .ref a_kept, .int zisKept, .int zpasts, .ref a_text, .int ztyped, .ref a_measure, .int y.2.2.2.1, .int y.2.2.2.2.1, .int y.2.2.2.2.2.1, .ref a_chosen, .ref a_ways, .int zspot, .int zreason, .int zplaces, .ref a_owners, .ref a_ranks, .ref a_sets, .ref a_toldAt, .ref a_line])), (a_s, .inl (cI, 37, .inl y.2.1)), (a_measure, .inl (cI, 12, .inl y.2.2.1)), (a_chosen, .inl (cI, 12, .inl y.2.2.2.2.2.2.1)), (a_ways, .inl (cI, 12, .inl y.2.2.2.2.2.2.2))] y.1 := by
  unfold f_X4_placeOf at h
  refine ctI (by decide) (Nat.le_of_ble_eq_true rfl) ?_
  intro p e s m args below meth c A Q ls F hret hP hD hS hl
  have hx := F.1
  have hb := F.2.1
  have hown : s.vm.findClass RX4 = some m.cls := F.2.2.2.1
  have hts := F.2.2.2.2.1
  have hN := F.2.2.2.2.2.1
  have hK := F.2.2.2.2.2.2.1
  have hl : lv_has ls 3 [(0, .ref a0), (1, .int x1), (2, .int x2)] := hl
  refine lv_aload_n hx hb dX4_placeOf_0 rfl (lv_at hl 0 rfl) ?_
  refine lv_iload_n hx hb dX4_placeOf_1 rfl (lv_at hl 1 rfl) ?_
  obtain ⟨q1, hq2, h⟩ := bd h
  refine kvI (ws' := [(a0, .inr (3, [.ref a_s, .ref a_past, .ref a_kept, .int zisKept, .int zpasts, .ref a_text, .int ztyped, .ref a_measure, .int zmost1, .int zmost3, .int zmost5, .ref a_chosen, .ref a_ways, .int zspot, .int zreason, .int zplaces, .ref a_owners, .ref a_ranks, .ref a_sets, .ref a_toldAt, .ref a_line])), (a_s, .inl (cI, 37, .inl zs)), (a_measure, .inl (cI, 12, .inl zmeasure)), (a_chosen, .inl (cI, 12, .inl zchosen)), (a_ways, .inl (cI, 12, .inl zways))]) (wr := [(a_measure, .inl (cI, 12, .inl zmeasure)), (a_chosen, .inl (cI, 12, .inl zchosen)), (a_ways, .inl (cI, 12, .inl zways))]) (As := [.int x1]) F (c_X4_isPlace l D cI cC cH a0 a_s a_past a_kept a_text a_measure a_chosen a_ways a_owners a_ranks a_sets a_toldAt a_line N x1 zs zisKept zpasts ztyped zmost1 zmost3 zmost5 zspot zreason zplaces q1 hq2) yfX4_isPlace ⟨wd2_231, wd2_233, wdp_20⟩ hP hD hS [0, 1] [2, 3, 4] [3, 4, 0, 1, 2] rfl rfl (by decide) (by decide) (by decide) rfl (by decide) 0 3 rfl rfl rfl ⟨Nat.le_of_ble_eq_true rfl, Nat.le_of_ble_eq_true rfl, Nat.zero_le _, Nat.zero_le _⟩ rfl hl rfl (Nat.le_of_ble_eq_true rfl) dX4_placeOf_2 (fun H locs hP hD hS => ?_)
  refine lv_if_eq (tgt := 17) hx hb dX4_placeOf_5 (by decide) (fun c3 => ?_) (fun c3 => ?_)
  · have h := itT h c3
    refine lv_iconst (v := (-1)) hx hb dX4_placeOf_17 (by decide) ?_
    obtain rfl := Option.some.inj h
    exact hret _ _ _ _ _ rfl hP hD hS dX4_placeOf_18
  · have h := itF h c3
    refine lv_iload_n hx hb dX4_placeOf_8 rfl (lv_at hl 2 rfl) ?_
    refine lv_iconst (v := 0) hx hb dX4_placeOf_9 (by decide) ?_
    refine lv_iconst (v := 5) hx hb dX4_placeOf_10 (by decide) ?_
    obtain ⟨q4, hq5, h⟩ := bd h
    refine ks0 (As := [.int x2, .int 0, .int 5]) F (c_X4_in l D cI cC cH  N x2 0 5 q4 hq5) yfX4_in ⟨wd2_220, wd2_221⟩ hP hD hS ⟨Nat.le_of_ble_eq_true rfl, Nat.le_of_ble_eq_true rfl, Nat.zero_le _, Nat.zero_le _⟩ rfl hl rfl (Nat.le_of_ble_eq_true rfl) dX4_placeOf_11 (fun H locs hP hD hS => ?_)
    refine lv_if_ne (tgt := 19) hx hb dX4_placeOf_14 (by decide) (fun c6 => ?_) (fun c6 => ?_)
    · have h := itF h c6
      refine lv_iload_n hx hb dX4_placeOf_19 rfl (lv_at hl 2 rfl) ?_
      by_cases c9 : x2 = 0
      · have h := itT h c9
        refine lv_tableIn (tgt := 56) hx hb dX4_placeOf_20 (by rw [c9]; decide) (by rw [c9]; decide) (by rw [c9]; rfl) (by decide) ?_
        refine lv_aload_n hx hb dX4_placeOf_56 rfl (lv_at hl 0 rfl) ?_
        refine va_get (D := D) (ci := 3) (v := .ref a_s) (C := RX4) (T := TX4) (N := 21) hx hb hts inG4 hown hK hP 0 rfl rfl 0 (by decide) (hts _ wd2_152) (fun _ h9 => h9) rfl dX4_placeOf_57 ?_
        refine lv_iconst (v := 1) hx hb dX4_placeOf_60 (by decide) ?_
        refine lv_iload_n hx hb dX4_placeOf_61 rfl (lv_at hl 1 rfl) ?_
        refine lv_iadd hx hb dX4_placeOf_62 ?_
        obtain ⟨g22, h⟩ := chk_s h
        refine va_iald hx hb hK hP 1 0 rfl rfl (gi_in g22) dX4_placeOf_63 ?_
        obtain rfl := Option.some.inj h
        exact hret _ _ _ _ _ rfl hP hD hS dX4_placeOf_64
      · have h := itF h c9
        by_cases c10 : x2 = 1
        · have h := itT h c10
          refine lv_tableIn (tgt := 65) hx hb dX4_placeOf_20 (by rw [c10]; decide) (by rw [c10]; decide) (by rw [c10]; rfl) (by decide) ?_
          refine lv_aload_n hx hb dX4_placeOf_65 rfl (lv_at hl 0 rfl) ?_
          refine va_get (D := D) (ci := 3) (v := .ref a_s) (C := RX4) (T := TX4) (N := 21) hx hb hts inG4 hown hK hP 0 rfl rfl 0 (by decide) (hts _ wd2_152) (fun _ h9 => h9) rfl dX4_placeOf_66 ?_
          refine lv_bipush (v := 13) hx hb dX4_placeOf_69 (by decide) ?_
          refine lv_iload_n hx hb dX4_placeOf_71 rfl (lv_at hl 1 rfl) ?_
          refine lv_iadd hx hb dX4_placeOf_72 ?_
          obtain ⟨g21, h⟩ := chk_s h
          refine va_iald hx hb hK hP 1 0 rfl rfl (gi_in g21) dX4_placeOf_73 ?_
          obtain rfl := Option.some.inj h
          exact hret _ _ _ _ _ rfl hP hD hS dX4_placeOf_74
        · have h := itF h c10
          by_cases c11 : x2 = 2
          · have h := itT h c11
            refine lv_tableIn (tgt := 75) hx hb dX4_placeOf_20 (by rw [c11]; decide) (by rw [c11]; decide) (by rw [c11]; rfl) (by decide) ?_
            refine lv_aload_n hx hb dX4_placeOf_75 rfl (lv_at hl 0 rfl) ?_
            refine va_get (D := D) (ci := 3) (v := .ref a_s) (C := RX4) (T := TX4) (N := 21) hx hb hts inG4 hown hK hP 0 rfl rfl 0 (by decide) (hts _ wd2_152) (fun _ h9 => h9) rfl dX4_placeOf_76 ?_
            refine lv_bipush (v := 25) hx hb dX4_placeOf_79 (by decide) ?_
            refine lv_iload_n hx hb dX4_placeOf_81 rfl (lv_at hl 1 rfl) ?_
            refine lv_iadd hx hb dX4_placeOf_82 ?_
            obtain ⟨g20, h⟩ := chk_s h
            refine va_iald hx hb hK hP 1 0 rfl rfl (gi_in g20) dX4_placeOf_83 ?_
            obtain rfl := Option.some.inj h
            exact hret _ _ _ _ _ rfl hP hD hS dX4_placeOf_84
          · have h := itF h c11
            by_cases c12 : x2 = 3
            · have h := itT h c12
              refine lv_tableIn (tgt := 85) hx hb dX4_placeOf_20 (by rw [c12]; decide) (by rw [c12]; decide) (by rw [c12]; rfl) (by decide) ?_
              refine lv_aload_n hx hb dX4_placeOf_85 rfl (lv_at hl 0 rfl) ?_
              refine lv_iload_n hx hb dX4_placeOf_86 rfl (lv_at hl 1 rfl) ?_
              obtain ⟨q18, hq19, h⟩ := bd h
              refine kvI (ws' := [(a0, .inr (3, [.ref a_s, .ref a_past, .ref a_kept, .int zisKept, .int zpasts, .ref a_text, .int ztyped, .ref a_measure, .int zmost1, .int zmost3, .int zmost5, .ref a_chosen, .ref a_ways, .int zspot, .int zreason, .int zplaces, .ref a_owners, .ref a_ranks, .ref a_sets, .ref a_toldAt, .ref a_line])), (a_s, .inl (cI, 37, .inl zs)), (a_measure, .inl (cI, 12, .inl zmeasure)), (a_chosen, .inl (cI, 12, .inl zchosen)), (a_ways, .inl (cI, 12, .inl zways))]) (wr := [(a_measure, .inl (cI, 12, .inl zmeasure)), (a_chosen, .inl (cI, 12, .inl zchosen)), (a_ways, .inl (cI, 12, .inl zways))]) (As := [.int x1]) F (c_X4_into l D cI cC cH a0 a_s a_past a_kept a_text a_measure a_chosen a_ways a_owners a_ranks a_sets a_toldAt a_line N x1 zs zisKept zpasts ztyped zmost1 zmost3 zmost5 zspot zreason zplaces q18 hq19) yfX4_into ⟨wd3_18, wd3_20, wdp_22⟩ hP hD hS [0, 1] [2, 3, 4] [3, 4, 0, 1, 2] rfl rfl (by decide) (by decide) (by decide) rfl (by decide) 0 3 rfl rfl rfl ⟨Nat.le_of_ble_eq_true rfl, Nat.le_of_ble_eq_true rfl, Nat.zero_le _, Nat.zero_le _⟩ rfl hl rfl (Nat.le_of_ble_eq_true rfl) dX4_placeOf_87 (fun H locs hP hD hS => ?_)
              obtain rfl := Option.some.inj h
              exact hret _ _ _ _ _ rfl hP hD hS dX4_placeOf_90
            · have h := itF h c12
              by_cases c13 : x2 = 4
              · have h := itT h c13
                refine lv_tableIn (tgt := 91) hx hb dX4_placeOf_20 (by rw [c13]; decide) (by rw [c13]; decide) (by rw [c13]; rfl) (by decide) ?_
                refine lv_aload_n hx hb dX4_placeOf_91 rfl (lv_at hl 0 rfl) ?_
                obtain ⟨q14, hq15, h⟩ := bd h
                refine kvI (ws' := [(a0, .inr (3, [.ref a_s, .ref a_past, .ref a_kept, .int zisKept, .int zpasts, .ref a_text, .int ztyped, .ref a_measure, .int q14.2.2.1, .int q14.2.2.2.1, .int q14.2.2.2.2, .ref a_chosen, .ref a_ways, .int zspot, .int zreason, .int zplaces, .ref a_owners, .ref a_ranks, .ref a_sets, .ref a_toldAt, .ref a_line])), (a_s, .inl (cI, 37, .inl zs)), (a_measure, .inl (cI, 12, .inl q14.2.1)), (a_chosen, .inl (cI, 12, .inl zchosen)), (a_ways, .inl (cI, 12, .inl zways))]) (wr := [(a_chosen, .inl (cI, 12, .inl zchosen)), (a_ways, .inl (cI, 12, .inl zways))]) (As := []) F (c_X4_won l D cI cC cH a0 a_s a_past a_kept a_text a_measure a_chosen a_ways a_owners a_ranks a_sets a_toldAt a_line N zs zisKept zpasts ztyped zmeasure zmost1 zmost3 zmost5 zspot zreason zplaces q14 hq15) yfX4_won ⟨wd3_22, wd3_24, wdp_23⟩ hP hD hS [0, 1, 2] [3, 4] [2, 3, 4, 0, 1] rfl rfl (by decide) (by decide) (by decide) rfl (by decide) 0 3 rfl rfl rfl ⟨Nat.le_of_ble_eq_true rfl, Nat.le_of_ble_eq_true rfl, Nat.zero_le _, Nat.zero_le _⟩ rfl hl rfl (Nat.le_of_ble_eq_true rfl) dX4_placeOf_92 (fun H locs hP hD hS => ?_)
                refine lv_iload_n hx hb dX4_placeOf_95 rfl (lv_at hl 1 rfl) ?_
                obtain ⟨q16, hq17, h⟩ := bd h
                refine ks0 (As := [.int q14.1, .int x1]) F (c_X4_winner l D cI cC cH  N q14.1 x1 q16 hq17) yfX4_winner ⟨wd3_39, wd3_40⟩ hP hD hS ⟨Nat.le_of_ble_eq_true rfl, Nat.le_of_ble_eq_true rfl, Nat.zero_le _, Nat.zero_le _⟩ rfl hl rfl (Nat.le_of_ble_eq_true rfl) dX4_placeOf_96 (fun H locs hP hD hS => ?_)
                obtain rfl := Option.some.inj h
                exact hret _ _ _ _ _ rfl hP hD hS dX4_placeOf_99
              · have h := itF h c13
                have e9 : (x2).toInt ≠ 0 ∧ (x2).toInt ≠ 1 ∧ (x2).toInt ≠ 2 ∧ (x2).toInt ≠ 3 ∧ (x2).toInt ≠ 4 := ⟨neI c9 (by decide), neI c10 (by decide), neI c11 (by decide), neI c12 (by decide), neI c13 (by decide)⟩
                refine lv_tableOut (tgt := 100) hx hb dX4_placeOf_20 (by omega) (by decide) ?_
                refine lv_aload_n hx hb dX4_placeOf_100 rfl (lv_at hl 0 rfl) ?_
                refine lv_iload_n hx hb dX4_placeOf_101 rfl (lv_at hl 1 rfl) ?_
                obtain ⟨q7, hq8, h⟩ := bd h
                refine kvI (ws' := [(a0, .inr (3, [.ref a_s, .ref a_past, .ref a_kept, .int zisKept, .int zpasts, .ref a_text, .int ztyped, .ref a_measure, .int q7.2.2.2.1, .int q7.2.2.2.2.1, .int q7.2.2.2.2.2.1, .ref a_chosen, .ref a_ways, .int zspot, .int zreason, .int zplaces, .ref a_owners, .ref a_ranks, .ref a_sets, .ref a_toldAt, .ref a_line])), (a_s, .inl (cI, 37, .inl q7.2.1)), (a_measure, .inl (cI, 12, .inl q7.2.2.1)), (a_chosen, .inl (cI, 12, .inl q7.2.2.2.2.2.2.1)), (a_ways, .inl (cI, 12, .inl q7.2.2.2.2.2.2.2))]) (wr := []) (As := [.int x1]) F (c_X4_choiceAt l D cI cC cH a0 a_s a_past a_kept a_text a_measure a_chosen a_ways a_owners a_ranks a_sets a_toldAt a_line N x1 zs zisKept zpasts ztyped zmeasure zmost1 zmost3 zmost5 zchosen zways zspot zreason zplaces q7 hq8) yfX4_choiceAt ⟨wd3_42, wd3_44, wdp_27⟩ hP hD hS [0, 1, 2, 3, 4] [] [0, 1, 2, 3, 4] rfl rfl (by decide) (by decide) (by decide) rfl (by decide) 0 3 rfl rfl rfl ⟨Nat.le_of_ble_eq_true rfl, Nat.le_of_ble_eq_true rfl, Nat.zero_le _, Nat.zero_le _⟩ rfl hl rfl (Nat.le_of_ble_eq_true rfl) dX4_placeOf_102 (fun H locs hP hD hS => ?_)
                obtain rfl := Option.some.inj h
                exact hret _ _ _ _ _ rfl hP hD hS dX4_placeOf_105
    · have h := itT h c6
      refine lv_iconst (v := (-1)) hx hb dX4_placeOf_17 (by decide) ?_
      obtain rfl := Option.some.inj h
      exact hret _ _ _ _ _ rfl hP hD hS dX4_placeOf_18
def f_X4_manyWays_L4 (N : Nat) (zs_4 : Nat → Int32) : Nat → Int32 → Int32 → Option (Int32)
  | 0, _, _ => none
  | n_4 + 1, x1_4, x2_4 =>
    chk (gi 0 37) (if (zs_4 (Int32.toNatClampNeg 0)) ≤ x2_4 then (some x1_4) else (chk (gi (25 + x2_4) 37) (Option.bind (f_X4_ones N (zs_4 (Int32.toNatClampNeg (25 + x2_4)))) (fun q4 => f_X4_manyWays_L4 N zs_4 n_4 (x1_4 + q4) (x2_4 + 1)))))
def f_X4_manyWays (N : Nat) (zs : Nat → Int32) : Option (Int32) :=
    Option.bind (f_X4_manyWays_L4 N zs N 0 0) (fun q7 => some q7)
set_option maxHeartbeats 4000000 in
set_option maxRecDepth 100000 in
theorem c_X4_manyWays (l : Launch) (D : va_G) (cI cC cH : ClassId) (a0 : Nat) (a_s : Nat) (a_past : Nat) (a_kept : Nat) (a_text : Nat) (a_measure : Nat) (a_chosen : Nat) (a_ways : Nat) (a_owners : Nat) (a_ranks : Nat) (a_sets : Nat) (a_toldAt : Nat) (a_line : Nat) (N : Nat) (zs : Nat → Int32) (zisKept : Int32) (zpasts : Int32) (ztyped : Int32) (zmost1 : Int32) (zmost3 : Int32) (zmost5 : Int32) (zspot : Int32) (zreason : Int32) (zplaces : Int32) (y : Int32) (h : f_X4_manyWays N zs = some y) : CTi l yX4_manyWays cX4_manyWays 3 (some .int) 1 22 D (tyL cI cC cH) [.ref a0] [(a0, .inr (3, [.ref a_s, .ref a_past, .ref a_kept, .int zisKept, .int zpasts, .ref a_text, .int ztyped, .ref a_measure, .int zmost1, .int zmost3, .int zmost5, .ref a_chosen, .ref a_ways, .int zspot, .int zreason, .int zplaces, .ref a_owners, .ref a_ranks, .ref a_sets, .ref a_toldAt, .ref a_line])), (a_s, .inl (cI, 37, .inl zs))] [(a0, .inr (3, [.ref a_s, .ref a_past, .ref a_kept, .int zisKept, .int zpasts, .ref a_text, .int ztyped, .ref a_measure, .int zmost1, .int zmost3, .int zmost5, .ref a_chosen, .ref a_ways, .int zspot, .int zreason, .int zplaces, .ref a_owners, .ref a_ranks, .ref a_sets, .ref a_toldAt, .ref a_line])), (a_s, .inl (cI, 37, .inl zs))] y := by
  unfold f_X4_manyWays at h
  refine ctI (by decide) (Nat.le_of_ble_eq_true rfl) ?_
  intro p e s m args below meth c A Q ls F hret hP hD hS hl
  have hx := F.1
  have hb := F.2.1
  have hown : s.vm.findClass RX4 = some m.cls := F.2.2.2.1
  have hts := F.2.2.2.2.1
  have hN := F.2.2.2.2.2.1
  have hK := F.2.2.2.2.2.2.1
  have hl : lv_has ls 3 [(0, .ref a0)] := hl
  refine lv_iconst (v := 0) hx hb dX4_manyWays_0 (by decide) ?_
  refine lv_istore_n (lv' := [(1, .int 0), (0, .ref a0)]) hx hb dX4_manyWays_1 rfl hl (by decide) rfl (fun ls hl => ?_)
  refine lv_iconst (v := 0) hx hb dX4_manyWays_2 (by decide) ?_
  refine lv_istore_n (lv' := [(2, .int 0), (1, .int 0), (0, .ref a0)]) hx hb dX4_manyWays_3 rfl hl (by decide) rfl (fun ls hl => ?_)
  have L_4 : ∀ (zs_4 : Nat → Int32) (zisKept_4 : Int32) (zpasts_4 : Int32) (ztyped_4 : Int32) (zmost1_4 : Int32) (zmost3_4 : Int32) (zmost5_4 : Int32) (zspot_4 : Int32) (zreason_4 : Int32) (zplaces_4 : Int32), ∀ (n_4 : Nat) (x1_4 : Int32) (x2_4 : Int32) (q6 : (Int32)), f_X4_manyWays_L4 N zs_4 n_4 x1_4 x2_4 = some q6 → (∀ (ls : Array Slot) (H : Heap) (locs : List Loc), lv_has ls 3 [(1, .int q6)] → va_P D vwCl [(a0, .inr (3, [.ref a_s, .ref a_past, .ref a_kept, .int zisKept_4, .int zpasts_4, .ref a_text, .int ztyped_4, .ref a_measure, .int zmost1_4, .int zmost3_4, .int zmost5_4, .ref a_chosen, .ref a_ways, .int zspot_4, .int zreason_4, .int zplaces_4, .ref a_owners, .ref a_ranks, .ref a_sets, .ref a_toldAt, .ref a_line])), (a_s, .inl (cI, 37, .inl zs_4))] H → va_D A [(a0, .inr (3, [.ref a_s, .ref a_past, .ref a_kept, .int zisKept_4, .int zpasts_4, .ref a_text, .int ztyped_4, .ref a_measure, .int zmost1_4, .int zmost3_4, .int zmost5_4, .ref a_chosen, .ref a_ways, .int zspot_4, .int zreason_4, .int zplaces_4, .ref a_owners, .ref a_ranks, .ref a_sets, .ref a_toldAt, .ref a_line])), (a_s, .inl (cI, 37, .inl zs_4))] → va_S A s.heap H locs → W p l e (rmm 1 22) s m args below meth c H locs 0 0 Q (F0 m 35 ls [])) → ∀ (ls : Array Slot) (H : Heap) (locs : List Loc), lv_has ls 3 [(0, .ref a0), (1, .int x1_4), (2, .int x2_4)] → va_P D vwCl [(a0, .inr (3, [.ref a_s, .ref a_past, .ref a_kept, .int zisKept_4, .int zpasts_4, .ref a_text, .int ztyped_4, .ref a_measure, .int zmost1_4, .int zmost3_4, .int zmost5_4, .ref a_chosen, .ref a_ways, .int zspot_4, .int zreason_4, .int zplaces_4, .ref a_owners, .ref a_ranks, .ref a_sets, .ref a_toldAt, .ref a_line])), (a_s, .inl (cI, 37, .inl zs_4))] H → va_D A [(a0, .inr (3, [.ref a_s, .ref a_past, .ref a_kept, .int zisKept_4, .int zpasts_4, .ref a_text, .int ztyped_4, .ref a_measure, .int zmost1_4, .int zmost3_4, .int zmost5_4, .ref a_chosen, .ref a_ways, .int zspot_4, .int zreason_4, .int zplaces_4, .ref a_owners, .ref a_ranks, .ref a_sets, .ref a_toldAt, .ref a_line])), (a_s, .inl (cI, 37, .inl zs_4))] → va_S A s.heap H locs → W p l e (rmm 1 22) s m args below meth c H locs 0 0 Q (F0 m 4 ls []) := by
    intro zs_4 zisKept_4 zpasts_4 ztyped_4 zmost1_4 zmost3_4 zmost5_4 zspot_4 zreason_4 zplaces_4 n_4
    induction n_4 with
    | zero => intro x1_4 x2_4 q6 h; exact no_s h
    | succ n_4 ih_4 =>
      intro x1_4 x2_4 q6 h J_4 ls H locs hl hP hD hS
      rw [f_X4_manyWays_L4] at h
      refine lv_iload_n hx hb dX4_manyWays_4 rfl (lv_at hl 2 rfl) ?_
      refine lv_aload_n hx hb dX4_manyWays_5 rfl (lv_at hl 0 rfl) ?_
      refine va_get (D := D) (ci := 3) (v := .ref a_s) (C := RX4) (T := TX4) (N := 21) hx hb hts inG4 hown hK hP 0 rfl rfl 0 (by decide) (hts _ wd2_152) (fun _ h9 => h9) rfl dX4_manyWays_6 ?_
      refine lv_iconst (v := 0) hx hb dX4_manyWays_9 (by decide) ?_
      obtain ⟨g1, h⟩ := chk_s h
      refine va_iald hx hb hK hP 1 0 rfl rfl (gi_in g1) dX4_manyWays_10 ?_
      refine lv_icmp_ge (tgt := 35) hx hb dX4_manyWays_11 (by decide) (fun c2 => ?_) (fun c2 => ?_)
      · have h := itT h c2
        obtain rfl := Option.some.inj h
        exact J_4 _ _ _ (lv_sub hl [1] rfl) hP hD hS
      · have h := itF h c2
        refine lv_iload_n hx hb dX4_manyWays_14 rfl (lv_at hl 1 rfl) ?_
        refine lv_aload_n hx hb dX4_manyWays_15 rfl (lv_at hl 0 rfl) ?_
        refine va_get (D := D) (ci := 3) (v := .ref a_s) (C := RX4) (T := TX4) (N := 21) hx hb hts inG4 hown hK hP 0 rfl rfl 0 (by decide) (hts _ wd2_152) (fun _ h9 => h9) rfl dX4_manyWays_16 ?_
        refine lv_bipush (v := 25) hx hb dX4_manyWays_19 (by decide) ?_
        refine lv_iload_n hx hb dX4_manyWays_21 rfl (lv_at hl 2 rfl) ?_
        refine lv_iadd hx hb dX4_manyWays_22 ?_
        obtain ⟨g3, h⟩ := chk_s h
        refine va_iald hx hb hK hP 1 0 rfl rfl (gi_in g3) dX4_manyWays_23 ?_
        obtain ⟨q4, hq5, h⟩ := bd h
        refine ks0 (As := [.int (zs_4 (Int32.toNatClampNeg (25 + x2_4)))]) F (c_X4_ones l D cI cC cH  N (zs_4 (Int32.toNatClampNeg (25 + x2_4))) q4 hq5) yfX4_ones ⟨wd3_7, wd3_8⟩ hP hD hS ⟨Nat.le_of_ble_eq_true rfl, Nat.le_of_ble_eq_true rfl, Nat.zero_le _, Nat.zero_le _⟩ rfl hl rfl (Nat.le_of_ble_eq_true rfl) dX4_manyWays_24 (fun H locs hP hD hS => ?_)
        refine lv_iadd hx hb dX4_manyWays_27 ?_
        refine lv_istore_n (lv' := [(1, .int (x1_4 + q4)), (0, .ref a0), (2, .int x2_4)]) hx hb dX4_manyWays_28 rfl hl (by decide) rfl (fun ls hl => ?_)
        refine lv_iinc (v := x2_4 + 1) (lv' := [(2, .int (x2_4 + 1)), (1, .int (x1_4 + q4)), (0, .ref a0)]) hx hb dX4_manyWays_29 hl (k := 2) rfl rfl (by decide) rfl (fun ls hl => ?_)
        refine lv_goto (tgt := 4) hx hb dX4_manyWays_32 (by decide) ?_
        exact ih_4 (x1_4 + q4) (x2_4 + 1) _ h J_4 _ _ _ (lv_sub hl [2, 1, 0] rfl) hP hD hS
  obtain ⟨q7, hb8, h⟩ := bd h
  refine L_4 zs zisKept zpasts ztyped zmost1 zmost3 zmost5 zspot zreason zplaces N 0 0 q7 hb8 ?_ _ _ _ (lv_sub hl [2, 1, 0] rfl) hP hD hS
  intro ls H locs hl hP hD hS
  refine lv_iload_n hx hb dX4_manyWays_35 rfl (lv_at hl 0 rfl) ?_
  obtain rfl := Option.some.inj h
  exact hret _ _ _ _ _ rfl hP hD hS dX4_manyWays_36
def f_X4_dead_L4 (N : Nat) (zs_4 : Nat → Int32) : Nat → Int32 → Int32 → Option (Int32)
  | 0, _, _ => none
  | n_4 + 1, x1_4, x2_4 =>
    chk (gi 0 37) (if (zs_4 (Int32.toNatClampNeg 0)) ≤ x2_4 then (some x1_4) else (chk (gi (25 + x2_4) 37) (Option.bind (α := Int32) (if (zs_4 (Int32.toNatClampNeg (25 + x2_4))) = 0 then (some ((1 : Int32) <<< (x2_4 &&& 31))) else (some (0))) (fun q5 => f_X4_dead_L4 N zs_4 n_4 (x1_4 ||| q5) (x2_4 + 1)))))
def f_X4_dead (N : Nat) (zs : Nat → Int32) : Option (Int32) :=
    Option.bind (f_X4_dead_L4 N zs N 0 0) (fun q10 => some q10)
set_option maxHeartbeats 4000000 in
set_option maxRecDepth 100000 in
theorem c_X4_dead (l : Launch) (D : va_G) (cI cC cH : ClassId) (a0 : Nat) (a_s : Nat) (a_past : Nat) (a_kept : Nat) (a_text : Nat) (a_measure : Nat) (a_chosen : Nat) (a_ways : Nat) (a_owners : Nat) (a_ranks : Nat) (a_sets : Nat) (a_toldAt : Nat) (a_line : Nat) (N : Nat) (zs : Nat → Int32) (zisKept : Int32) (zpasts : Int32) (ztyped : Int32) (zmost1 : Int32) (zmost3 : Int32) (zmost5 : Int32) (zspot : Int32) (zreason : Int32) (zplaces : Int32) (y : Int32) (h : f_X4_dead N zs = some y) : CTi l yX4_dead cX4_dead 3 (some .int) 0 0 D (tyL cI cC cH) [.ref a0] [(a0, .inr (3, [.ref a_s, .ref a_past, .ref a_kept, .int zisKept, .int zpasts, .ref a_text, .int ztyped, .ref a_measure, .int zmost1, .int zmost3, .int zmost5, .ref a_chosen, .ref a_ways, .int zspot, .int zreason, .int zplaces, .ref a_owners, .ref a_ranks, .ref a_sets, .ref a_toldAt, .ref a_line])), (a_s, .inl (cI, 37, .inl zs))] [(a0, .inr (3, [.ref a_s, .ref a_past, .ref a_kept, .int zisKept, .int zpasts, .ref a_text, .int ztyped, .ref a_measure, .int zmost1, .int zmost3, .int zmost5, .ref a_chosen, .ref a_ways, .int zspot, .int zreason, .int zplaces, .ref a_owners, .ref a_ranks, .ref a_sets, .ref a_toldAt, .ref a_line])), (a_s, .inl (cI, 37, .inl zs))] y := by
  unfold f_X4_dead at h
  refine ctI (by decide) (Nat.le_of_ble_eq_true rfl) ?_
  intro p e s m args below meth c A Q ls F hret hP hD hS hl
  have hx := F.1
  have hb := F.2.1
  have hown : s.vm.findClass RX4 = some m.cls := F.2.2.2.1
  have hts := F.2.2.2.2.1
  have hN := F.2.2.2.2.2.1
  have hK := F.2.2.2.2.2.2.1
  have hl : lv_has ls 3 [(0, .ref a0)] := hl
  refine lv_iconst (v := 0) hx hb dX4_dead_0 (by decide) ?_
  refine lv_istore_n (lv' := [(1, .int 0), (0, .ref a0)]) hx hb dX4_dead_1 rfl hl (by decide) rfl (fun ls hl => ?_)
  refine lv_iconst (v := 0) hx hb dX4_dead_2 (by decide) ?_
  refine lv_istore_n (lv' := [(2, .int 0), (1, .int 0), (0, .ref a0)]) hx hb dX4_dead_3 rfl hl (by decide) rfl (fun ls hl => ?_)
  have L_4 : ∀ (zs_4 : Nat → Int32) (zisKept_4 : Int32) (zpasts_4 : Int32) (ztyped_4 : Int32) (zmost1_4 : Int32) (zmost3_4 : Int32) (zmost5_4 : Int32) (zspot_4 : Int32) (zreason_4 : Int32) (zplaces_4 : Int32), ∀ (n_4 : Nat) (x1_4 : Int32) (x2_4 : Int32) (q9 : (Int32)), f_X4_dead_L4 N zs_4 n_4 x1_4 x2_4 = some q9 → (∀ (ls : Array Slot) (H : Heap) (locs : List Loc), lv_has ls 3 [(1, .int q9)] → va_P D vwCl [(a0, .inr (3, [.ref a_s, .ref a_past, .ref a_kept, .int zisKept_4, .int zpasts_4, .ref a_text, .int ztyped_4, .ref a_measure, .int zmost1_4, .int zmost3_4, .int zmost5_4, .ref a_chosen, .ref a_ways, .int zspot_4, .int zreason_4, .int zplaces_4, .ref a_owners, .ref a_ranks, .ref a_sets, .ref a_toldAt, .ref a_line])), (a_s, .inl (cI, 37, .inl zs_4))] H → va_D A [(a0, .inr (3, [.ref a_s, .ref a_past, .ref a_kept, .int zisKept_4, .int zpasts_4, .ref a_text, .int ztyped_4, .ref a_measure, .int zmost1_4, .int zmost3_4, .int zmost5_4, .ref a_chosen, .ref a_ways, .int zspot_4, .int zreason_4, .int zplaces_4, .ref a_owners, .ref a_ranks, .ref a_sets, .ref a_toldAt, .ref a_line])), (a_s, .inl (cI, 37, .inl zs_4))] → va_S A s.heap H locs → W p l e (rmm 0 0) s m args below meth c H locs 0 0 Q (F0 m 42 ls [])) → ∀ (ls : Array Slot) (H : Heap) (locs : List Loc), lv_has ls 3 [(0, .ref a0), (1, .int x1_4), (2, .int x2_4)] → va_P D vwCl [(a0, .inr (3, [.ref a_s, .ref a_past, .ref a_kept, .int zisKept_4, .int zpasts_4, .ref a_text, .int ztyped_4, .ref a_measure, .int zmost1_4, .int zmost3_4, .int zmost5_4, .ref a_chosen, .ref a_ways, .int zspot_4, .int zreason_4, .int zplaces_4, .ref a_owners, .ref a_ranks, .ref a_sets, .ref a_toldAt, .ref a_line])), (a_s, .inl (cI, 37, .inl zs_4))] H → va_D A [(a0, .inr (3, [.ref a_s, .ref a_past, .ref a_kept, .int zisKept_4, .int zpasts_4, .ref a_text, .int ztyped_4, .ref a_measure, .int zmost1_4, .int zmost3_4, .int zmost5_4, .ref a_chosen, .ref a_ways, .int zspot_4, .int zreason_4, .int zplaces_4, .ref a_owners, .ref a_ranks, .ref a_sets, .ref a_toldAt, .ref a_line])), (a_s, .inl (cI, 37, .inl zs_4))] → va_S A s.heap H locs → W p l e (rmm 0 0) s m args below meth c H locs 0 0 Q (F0 m 4 ls []) := by
    intro zs_4 zisKept_4 zpasts_4 ztyped_4 zmost1_4 zmost3_4 zmost5_4 zspot_4 zreason_4 zplaces_4 n_4
    induction n_4 with
    | zero => intro x1_4 x2_4 q9 h; exact no_s h
    | succ n_4 ih_4 =>
      intro x1_4 x2_4 q9 h J_4 ls H locs hl hP hD hS
      rw [f_X4_dead_L4] at h
      refine lv_iload_n hx hb dX4_dead_4 rfl (lv_at hl 2 rfl) ?_
      refine lv_aload_n hx hb dX4_dead_5 rfl (lv_at hl 0 rfl) ?_
      refine va_get (D := D) (ci := 3) (v := .ref a_s) (C := RX4) (T := TX4) (N := 21) hx hb hts inG4 hown hK hP 0 rfl rfl 0 (by decide) (hts _ wd2_152) (fun _ h9 => h9) rfl dX4_dead_6 ?_
      refine lv_iconst (v := 0) hx hb dX4_dead_9 (by decide) ?_
      obtain ⟨g1, h⟩ := chk_s h
      refine va_iald hx hb hK hP 1 0 rfl rfl (gi_in g1) dX4_dead_10 ?_
      refine lv_icmp_ge (tgt := 42) hx hb dX4_dead_11 (by decide) (fun c2 => ?_) (fun c2 => ?_)
      · have h := itT h c2
        obtain rfl := Option.some.inj h
        exact J_4 _ _ _ (lv_sub hl [1] rfl) hP hD hS
      · have h := itF h c2
        refine lv_iload_n hx hb dX4_dead_14 rfl (lv_at hl 1 rfl) ?_
        refine lv_aload_n hx hb dX4_dead_15 rfl (lv_at hl 0 rfl) ?_
        refine va_get (D := D) (ci := 3) (v := .ref a_s) (C := RX4) (T := TX4) (N := 21) hx hb hts inG4 hown hK hP 0 rfl rfl 0 (by decide) (hts _ wd2_152) (fun _ h9 => h9) rfl dX4_dead_16 ?_
        refine lv_bipush (v := 25) hx hb dX4_dead_19 (by decide) ?_
        refine lv_iload_n hx hb dX4_dead_21 rfl (lv_at hl 2 rfl) ?_
        refine lv_iadd hx hb dX4_dead_22 ?_
        obtain ⟨g3, h⟩ := chk_s h
        refine va_iald hx hb hK hP 1 0 rfl rfl (gi_in g3) dX4_dead_23 ?_
        obtain ⟨q5, hb8, h⟩ := bd h
        have J6 : ∀ (ls : Array Slot) (H : Heap) (locs : List Loc), lv_has ls 3 [(0, .ref a0), (2, .int x2_4)] → va_P D vwCl [(a0, .inr (3, [.ref a_s, .ref a_past, .ref a_kept, .int zisKept_4, .int zpasts_4, .ref a_text, .int ztyped_4, .ref a_measure, .int zmost1_4, .int zmost3_4, .int zmost5_4, .ref a_chosen, .ref a_ways, .int zspot_4, .int zreason_4, .int zplaces_4, .ref a_owners, .ref a_ranks, .ref a_sets, .ref a_toldAt, .ref a_line])), (a_s, .inl (cI, 37, .inl zs_4))] H → va_D A [(a0, .inr (3, [.ref a_s, .ref a_past, .ref a_kept, .int zisKept_4, .int zpasts_4, .ref a_text, .int ztyped_4, .ref a_measure, .int zmost1_4, .int zmost3_4, .int zmost5_4, .ref a_chosen, .ref a_ways, .int zspot_4, .int zreason_4, .int zplaces_4, .ref a_owners, .ref a_ranks, .ref a_sets, .ref a_toldAt, .ref a_line])), (a_s, .inl (cI, 37, .inl zs_4))] → va_S A s.heap H locs → W p l e (rmm 0 0) s m args below meth c H locs 0 0 Q (F0 m 34 ls [.int q5, .int x1_4]) := by
          intro ls H locs hl hP hD hS
          refine lv_ior hx hb dX4_dead_34 ?_
          refine lv_istore_n (lv' := [(1, .int (x1_4 ||| q5)), (0, .ref a0), (2, .int x2_4)]) hx hb dX4_dead_35 rfl hl (by decide) rfl (fun ls hl => ?_)
          refine lv_iinc (v := x2_4 + 1) (lv' := [(2, .int (x2_4 + 1)), (1, .int (x1_4 ||| q5)), (0, .ref a0)]) hx hb dX4_dead_36 hl (k := 2) rfl rfl (by decide) rfl (fun ls hl => ?_)
          refine lv_goto (tgt := 4) hx hb dX4_dead_39 (by decide) ?_
          exact ih_4 (x1_4 ||| q5) (x2_4 + 1) _ h J_4 _ _ _ (lv_sub hl [2, 1, 0] rfl) hP hD hS
        clear h
        have h := hb8
        clear hb8
        refine lv_if_ne (tgt := 33) hx hb dX4_dead_24 (by decide) (fun c4 => ?_) (fun c4 => ?_)
        · have h := itF h c4
          refine lv_iconst (v := 0) hx hb dX4_dead_33 (by decide) ?_
          obtain rfl := Option.some.inj h
          exact J6 _ _ _ (lv_sub hl [0, 2] rfl) hP hD hS
        · have h := itT h c4
          refine lv_iconst (v := 1) hx hb dX4_dead_27 (by decide) ?_
          refine lv_iload_n hx hb dX4_dead_28 rfl (lv_at hl 2 rfl) ?_
          refine lv_ishl hx hb dX4_dead_29 ?_
          refine lv_goto (tgt := 34) hx hb dX4_dead_30 (by decide) ?_
          obtain rfl := Option.some.inj h
          exact J6 _ _ _ (lv_sub hl [0, 2] rfl) hP hD hS
  obtain ⟨q10, hb11, h⟩ := bd h
  refine L_4 zs zisKept zpasts ztyped zmost1 zmost3 zmost5 zspot zreason zplaces N 0 0 q10 hb11 ?_ _ _ _ (lv_sub hl [2, 1, 0] rfl) hP hD hS
  intro ls H locs hl hP hD hS
  refine lv_iload_n hx hb dX4_dead_42 rfl (lv_at hl 0 rfl) ?_
  obtain rfl := Option.some.inj h
  exact hret _ _ _ _ _ rfl hP hD hS dX4_dead_43
def f_X4_greatest_L5 (N : Nat) (zs_5 : Nat → Int32) : Nat → Int32 → Int32 → Option (Int32)
  | 0, _, _ => none
  | n_5 + 1, x1_5, x2_5 =>
    chk (gi 0 37) (if (zs_5 (Int32.toNatClampNeg 0)) ≤ x2_5 then (some x1_5) else (chk (gi (13 + x2_5) 37) (Option.bind (α := Int32) (if (zs_5 (Int32.toNatClampNeg (13 + x2_5))) ≤ x1_5 then (some (x1_5)) else (chk (gi (13 + x2_5) 37) (some (zs_5 (Int32.toNatClampNeg (13 + x2_5)))))) (fun q5 => f_X4_greatest_L5 N zs_5 n_5 q5 (x2_5 + 1)))))
def f_X4_greatest (N : Nat) (zs : Nat → Int32) : Option (Int32) :=
    Option.bind (f_X4_greatest_L5 N zs N (-4) 0) (fun q11 => some q11)
set_option maxHeartbeats 4000000 in
set_option maxRecDepth 100000 in
theorem c_X4_greatest (l : Launch) (D : va_G) (cI cC cH : ClassId) (a0 : Nat) (a_s : Nat) (a_past : Nat) (a_kept : Nat) (a_text : Nat) (a_measure : Nat) (a_chosen : Nat) (a_ways : Nat) (a_owners : Nat) (a_ranks : Nat) (a_sets : Nat) (a_toldAt : Nat) (a_line : Nat) (N : Nat) (zs : Nat → Int32) (zisKept : Int32) (zpasts : Int32) (ztyped : Int32) (zmost1 : Int32) (zmost3 : Int32) (zmost5 : Int32) (zspot : Int32) (zreason : Int32) (zplaces : Int32) (y : Int32) (h : f_X4_greatest N zs = some y) : CTi l yX4_greatest cX4_greatest 3 (some .int) 0 0 D (tyL cI cC cH) [.ref a0] [(a0, .inr (3, [.ref a_s, .ref a_past, .ref a_kept, .int zisKept, .int zpasts, .ref a_text, .int ztyped, .ref a_measure, .int zmost1, .int zmost3, .int zmost5, .ref a_chosen, .ref a_ways, .int zspot, .int zreason, .int zplaces, .ref a_owners, .ref a_ranks, .ref a_sets, .ref a_toldAt, .ref a_line])), (a_s, .inl (cI, 37, .inl zs))] [(a0, .inr (3, [.ref a_s, .ref a_past, .ref a_kept, .int zisKept, .int zpasts, .ref a_text, .int ztyped, .ref a_measure, .int zmost1, .int zmost3, .int zmost5, .ref a_chosen, .ref a_ways, .int zspot, .int zreason, .int zplaces, .ref a_owners, .ref a_ranks, .ref a_sets, .ref a_toldAt, .ref a_line])), (a_s, .inl (cI, 37, .inl zs))] y := by
  unfold f_X4_greatest at h
  refine ctI (by decide) (Nat.le_of_ble_eq_true rfl) ?_
  intro p e s m args below meth c A Q ls F hret hP hD hS hl
  have hx := F.1
  have hb := F.2.1
  have hown : s.vm.findClass RX4 = some m.cls := F.2.2.2.1
  have hts := F.2.2.2.2.1
  have hN := F.2.2.2.2.2.1
  have hK := F.2.2.2.2.2.2.1
  have hl : lv_has ls 3 [(0, .ref a0)] := hl
  refine lv_bipush (v := (-4)) hx hb dX4_greatest_0 (by decide) ?_
  refine lv_istore_n (lv' := [(1, .int (-4)), (0, .ref a0)]) hx hb dX4_greatest_2 rfl hl (by decide) rfl (fun ls hl => ?_)
  refine lv_iconst (v := 0) hx hb dX4_greatest_3 (by decide) ?_
  refine lv_istore_n (lv' := [(2, .int 0), (1, .int (-4)), (0, .ref a0)]) hx hb dX4_greatest_4 rfl hl (by decide) rfl (fun ls hl => ?_)
  have L_5 : ∀ (zs_5 : Nat → Int32) (zisKept_5 : Int32) (zpasts_5 : Int32) (ztyped_5 : Int32) (zmost1_5 : Int32) (zmost3_5 : Int32) (zmost5_5 : Int32) (zspot_5 : Int32) (zreason_5 : Int32) (zplaces_5 : Int32), ∀ (n_5 : Nat) (x1_5 : Int32) (x2_5 : Int32) (q10 : (Int32)), f_X4_greatest_L5 N zs_5 n_5 x1_5 x2_5 = some q10 → (∀ (ls : Array Slot) (H : Heap) (locs : List Loc), lv_has ls 3 [(1, .int q10)] → va_P D vwCl [(a0, .inr (3, [.ref a_s, .ref a_past, .ref a_kept, .int zisKept_5, .int zpasts_5, .ref a_text, .int ztyped_5, .ref a_measure, .int zmost1_5, .int zmost3_5, .int zmost5_5, .ref a_chosen, .ref a_ways, .int zspot_5, .int zreason_5, .int zplaces_5, .ref a_owners, .ref a_ranks, .ref a_sets, .ref a_toldAt, .ref a_line])), (a_s, .inl (cI, 37, .inl zs_5))] H → va_D A [(a0, .inr (3, [.ref a_s, .ref a_past, .ref a_kept, .int zisKept_5, .int zpasts_5, .ref a_text, .int ztyped_5, .ref a_measure, .int zmost1_5, .int zmost3_5, .int zmost5_5, .ref a_chosen, .ref a_ways, .int zspot_5, .int zreason_5, .int zplaces_5, .ref a_owners, .ref a_ranks, .ref a_sets, .ref a_toldAt, .ref a_line])), (a_s, .inl (cI, 37, .inl zs_5))] → va_S A s.heap H locs → W p l e (rmm 0 0) s m args below meth c H locs 0 0 Q (F0 m 48 ls [])) → ∀ (ls : Array Slot) (H : Heap) (locs : List Loc), lv_has ls 3 [(0, .ref a0), (1, .int x1_5), (2, .int x2_5)] → va_P D vwCl [(a0, .inr (3, [.ref a_s, .ref a_past, .ref a_kept, .int zisKept_5, .int zpasts_5, .ref a_text, .int ztyped_5, .ref a_measure, .int zmost1_5, .int zmost3_5, .int zmost5_5, .ref a_chosen, .ref a_ways, .int zspot_5, .int zreason_5, .int zplaces_5, .ref a_owners, .ref a_ranks, .ref a_sets, .ref a_toldAt, .ref a_line])), (a_s, .inl (cI, 37, .inl zs_5))] H → va_D A [(a0, .inr (3, [.ref a_s, .ref a_past, .ref a_kept, .int zisKept_5, .int zpasts_5, .ref a_text, .int ztyped_5, .ref a_measure, .int zmost1_5, .int zmost3_5, .int zmost5_5, .ref a_chosen, .ref a_ways, .int zspot_5, .int zreason_5, .int zplaces_5, .ref a_owners, .ref a_ranks, .ref a_sets, .ref a_toldAt, .ref a_line])), (a_s, .inl (cI, 37, .inl zs_5))] → va_S A s.heap H locs → W p l e (rmm 0 0) s m args below meth c H locs 0 0 Q (F0 m 5 ls []) := by
    intro zs_5 zisKept_5 zpasts_5 ztyped_5 zmost1_5 zmost3_5 zmost5_5 zspot_5 zreason_5 zplaces_5 n_5
    induction n_5 with
    | zero => intro x1_5 x2_5 q10 h; exact no_s h
    | succ n_5 ih_5 =>
      intro x1_5 x2_5 q10 h J_5 ls H locs hl hP hD hS
      rw [f_X4_greatest_L5] at h
      refine lv_iload_n hx hb dX4_greatest_5 rfl (lv_at hl 2 rfl) ?_
      refine lv_aload_n hx hb dX4_greatest_6 rfl (lv_at hl 0 rfl) ?_
      refine va_get (D := D) (ci := 3) (v := .ref a_s) (C := RX4) (T := TX4) (N := 21) hx hb hts inG4 hown hK hP 0 rfl rfl 0 (by decide) (hts _ wd2_152) (fun _ h9 => h9) rfl dX4_greatest_7 ?_
      refine lv_iconst (v := 0) hx hb dX4_greatest_10 (by decide) ?_
      obtain ⟨g1, h⟩ := chk_s h
      refine va_iald hx hb hK hP 1 0 rfl rfl (gi_in g1) dX4_greatest_11 ?_
      refine lv_icmp_ge (tgt := 48) hx hb dX4_greatest_12 (by decide) (fun c2 => ?_) (fun c2 => ?_)
      · have h := itT h c2
        obtain rfl := Option.some.inj h
        exact J_5 _ _ _ (lv_sub hl [1] rfl) hP hD hS
      · have h := itF h c2
        refine lv_aload_n hx hb dX4_greatest_15 rfl (lv_at hl 0 rfl) ?_
        refine va_get (D := D) (ci := 3) (v := .ref a_s) (C := RX4) (T := TX4) (N := 21) hx hb hts inG4 hown hK hP 0 rfl rfl 0 (by decide) (hts _ wd2_152) (fun _ h9 => h9) rfl dX4_greatest_16 ?_
        refine lv_bipush (v := 13) hx hb dX4_greatest_19 (by decide) ?_
        refine lv_iload_n hx hb dX4_greatest_21 rfl (lv_at hl 2 rfl) ?_
        refine lv_iadd hx hb dX4_greatest_22 ?_
        obtain ⟨g3, h⟩ := chk_s h
        refine va_iald hx hb hK hP 1 0 rfl rfl (gi_in g3) dX4_greatest_23 ?_
        refine lv_iload_n hx hb dX4_greatest_24 rfl (lv_at hl 1 rfl) ?_
        obtain ⟨q5, hb9, h⟩ := bd h
        have J6 : ∀ (ls : Array Slot) (H : Heap) (locs : List Loc), lv_has ls 3 [(0, .ref a0), (2, .int x2_5)] → va_P D vwCl [(a0, .inr (3, [.ref a_s, .ref a_past, .ref a_kept, .int zisKept_5, .int zpasts_5, .ref a_text, .int ztyped_5, .ref a_measure, .int zmost1_5, .int zmost3_5, .int zmost5_5, .ref a_chosen, .ref a_ways, .int zspot_5, .int zreason_5, .int zplaces_5, .ref a_owners, .ref a_ranks, .ref a_sets, .ref a_toldAt, .ref a_line])), (a_s, .inl (cI, 37, .inl zs_5))] H → va_D A [(a0, .inr (3, [.ref a_s, .ref a_past, .ref a_kept, .int zisKept_5, .int zpasts_5, .ref a_text, .int ztyped_5, .ref a_measure, .int zmost1_5, .int zmost3_5, .int zmost5_5, .ref a_chosen, .ref a_ways, .int zspot_5, .int zreason_5, .int zplaces_5, .ref a_owners, .ref a_ranks, .ref a_sets, .ref a_toldAt, .ref a_line])), (a_s, .inl (cI, 37, .inl zs_5))] → va_S A s.heap H locs → W p l e (rmm 0 0) s m args below meth c H locs 0 0 Q (F0 m 41 ls [.int q5]) := by
          intro ls H locs hl hP hD hS
          refine lv_istore_n (lv' := [(1, .int q5), (0, .ref a0), (2, .int x2_5)]) hx hb dX4_greatest_41 rfl hl (by decide) rfl (fun ls hl => ?_)
          refine lv_iinc (v := x2_5 + 1) (lv' := [(2, .int (x2_5 + 1)), (1, .int q5), (0, .ref a0)]) hx hb dX4_greatest_42 hl (k := 2) rfl rfl (by decide) rfl (fun ls hl => ?_)
          refine lv_goto (tgt := 5) hx hb dX4_greatest_45 (by decide) ?_
          exact ih_5 q5 (x2_5 + 1) _ h J_5 _ _ _ (lv_sub hl [2, 1, 0] rfl) hP hD hS
        clear h
        have h := hb9
        clear hb9
        refine lv_icmp_le (tgt := 40) hx hb dX4_greatest_25 (by decide) (fun c4 => ?_) (fun c4 => ?_)
        · have h := itT h c4
          refine lv_iload_n hx hb dX4_greatest_40 rfl (lv_at hl 1 rfl) ?_
          obtain rfl := Option.some.inj h
          exact J6 _ _ _ (lv_sub hl [0, 2] rfl) hP hD hS
        · have h := itF h c4
          refine lv_aload_n hx hb dX4_greatest_28 rfl (lv_at hl 0 rfl) ?_
          refine va_get (D := D) (ci := 3) (v := .ref a_s) (C := RX4) (T := TX4) (N := 21) hx hb hts inG4 hown hK hP 0 rfl rfl 0 (by decide) (hts _ wd2_152) (fun _ h9 => h9) rfl dX4_greatest_29 ?_
          refine lv_bipush (v := 13) hx hb dX4_greatest_32 (by decide) ?_
          refine lv_iload_n hx hb dX4_greatest_34 rfl (lv_at hl 2 rfl) ?_
          refine lv_iadd hx hb dX4_greatest_35 ?_
          obtain ⟨g8, h⟩ := chk_s h
          refine va_iald hx hb hK hP 1 0 rfl rfl (gi_in g8) dX4_greatest_36 ?_
          refine lv_goto (tgt := 41) hx hb dX4_greatest_37 (by decide) ?_
          obtain rfl := Option.some.inj h
          exact J6 _ _ _ (lv_sub hl [0, 2] rfl) hP hD hS
  obtain ⟨q11, hb12, h⟩ := bd h
  refine L_5 zs zisKept zpasts ztyped zmost1 zmost3 zmost5 zspot zreason zplaces N (-4) 0 q11 hb12 ?_ _ _ _ (lv_sub hl [2, 1, 0] rfl) hP hD hS
  intro ls H locs hl hP hD hS
  refine lv_iload_n hx hb dX4_greatest_48 rfl (lv_at hl 0 rfl) ?_
  obtain rfl := Option.some.inj h
  exact hret _ _ _ _ _ rfl hP hD hS dX4_greatest_49
def f_X4_count (N : Nat) (x1 : Int32) (zs : Nat → Int32) (zisKept : Int32) (zpasts : Int32) (ztyped : Int32) (zmeasure : Nat → Int32) (zmost1 : Int32) (zmost3 : Int32) (zmost5 : Int32) : Option (Int32 × (Nat → Int32) × Int32 × Int32 × Int32) :=
    if x1 = 0 then (chk (gi 0 37) (some (zs (Int32.toNatClampNeg 0), zmeasure, zmost1, zmost3, zmost5))) else (if x1 = 1 then (Option.bind (f_X4_manyWays N zs) (fun q21 => some (q21, zmeasure, zmost1, zmost3, zmost5))) else (if x1 = 2 then (Option.bind (f_X4_won N zs zmeasure zmost1 zmost3 zmost5) (fun q19 => some (q19.1, q19.2.1, q19.2.2.1, q19.2.2.2.1, q19.2.2.2.2))) else (if x1 = 3 then (Option.bind (f_X4_all N zs) (fun q15 => Option.bind (f_X4_won N zs zmeasure zmost1 zmost3 zmost5) (fun q17 => some (q15 - q17.1, q17.2.1, q17.2.2.1, q17.2.2.2.1, q17.2.2.2.2)))) else (if x1 = 4 then (Option.bind (f_X4_dead N zs) (fun q13 => some (q13, zmeasure, zmost1, zmost3, zmost5))) else (if x1 = 5 then (Option.bind (f_X4_greatest N zs) (fun q11 => some (q11, zmeasure, zmost1, zmost3, zmost5))) else (if x1 = 6 then (some (zpasts, zmeasure, zmost1, zmost3, zmost5)) else (if x1 = 7 then (some (ztyped, zmeasure, zmost1, zmost3, zmost5)) else (if x1 = 8 then (if zisKept = 0 then (some (0, zmeasure, zmost1, zmost3, zmost5)) else (some (1, zmeasure, zmost1, zmost3, zmost5))) else (some ((-1), zmeasure, zmost1, zmost3, zmost5))))))))))
set_option maxHeartbeats 4000000 in
set_option maxRecDepth 100000 in
theorem c_X4_count (l : Launch) (D : va_G) (cI cC cH : ClassId) (a0 : Nat) (a_s : Nat) (a_past : Nat) (a_kept : Nat) (a_text : Nat) (a_measure : Nat) (a_chosen : Nat) (a_ways : Nat) (a_owners : Nat) (a_ranks : Nat) (a_sets : Nat) (a_toldAt : Nat) (a_line : Nat) (N : Nat) (x1 : Int32) (zs : Nat → Int32) (zisKept : Int32) (zpasts : Int32) (ztyped : Int32) (zmeasure : Nat → Int32) (zmost1 : Int32) (zmost3 : Int32) (zmost5 : Int32) (zspot : Int32) (zreason : Int32) (zplaces : Int32) (y : Int32 × (Nat → Int32) × Int32 × Int32 × Int32) (h : f_X4_count N x1 zs zisKept zpasts ztyped zmeasure zmost1 zmost3 zmost5 = some y) : CTi l yX4_count cX4_count 2 (some .int) 3 74 D (tyL cI cC cH) [.ref a0, .int x1] [(a0, .inr (3, [.ref a_s, .ref a_past, .ref a_kept, .int zisKept, .int zpasts, .ref a_text, .int ztyped, .ref a_measure, .int zmost1, .int zmost3, .int zmost5, .ref a_chosen, .ref a_ways, .int zspot, .int zreason, .int zplaces, .ref a_owners, .ref a_ranks, .ref a_sets, .ref a_toldAt, .ref a_line])), (a_s, .inl (cI, 37, .inl zs)), (a_measure, .inl (cI, 12, .inl zmeasure))] [(a0, .inr (3, [.ref a_s, .ref a_past, .ref a_kept, .int zisKept, .int zpasts, .ref a_text, .int ztyped, .ref a_measure, .int y.2.2.1, .int y.2.2.2.1, .int y.2.2.2.2, .ref a_chosen, .ref a_ways, .int zspot, .int zreason, .int zplaces, .ref a_owners, .ref a_ranks, .ref a_sets, .ref a_toldAt, .ref a_line])), (a_s, .inl (cI, 37, .inl zs)), (a_measure, .inl (cI, 12, .inl y.2.1))] y.1 := by
  unfold f_X4_count at h
  refine ctI (by decide) (Nat.le_of_ble_eq_true rfl) ?_
  intro p e s m args below meth c A Q ls F hret hP hD hS hl
  have hx := F.1
  have hb := F.2.1
  have hown : s.vm.findClass RX4 = some m.cls := F.2.2.2.1
  have hts := F.2.2.2.2.1
  have hN := F.2.2.2.2.2.1
  have hK := F.2.2.2.2.2.2.1
  have hl : lv_has ls 2 [(0, .ref a0), (1, .int x1)] := hl
  refine lv_iload_n hx hb dX4_count_0 rfl (lv_at hl 1 rfl) ?_
  by_cases c1 : x1 = 0
  · have h := itT h c1
    refine lv_tableIn (tgt := 52) hx hb dX4_count_1 (by rw [c1]; decide) (by rw [c1]; decide) (by rw [c1]; rfl) (by decide) ?_
    refine lv_aload_n hx hb dX4_count_52 rfl (lv_at hl 0 rfl) ?_
    refine va_get (D := D) (ci := 3) (v := .ref a_s) (C := RX4) (T := TX4) (N := 21) hx hb hts inG4 hown hK hP 0 rfl rfl 0 (by decide) (hts _ wd2_152) (fun _ h9 => h9) rfl dX4_count_53 ?_
    refine lv_iconst (v := 0) hx hb dX4_count_56 (by decide) ?_
    obtain ⟨g23, h⟩ := chk_s h
    refine va_iald hx hb hK hP 1 0 rfl rfl (gi_in g23) dX4_count_57 ?_
    obtain rfl := Option.some.inj h
    exact hret _ _ _ _ _ rfl hP hD hS dX4_count_58
  · have h := itF h c1
    by_cases c2 : x1 = 1
    · have h := itT h c2
      refine lv_tableIn (tgt := 59) hx hb dX4_count_1 (by rw [c2]; decide) (by rw [c2]; decide) (by rw [c2]; rfl) (by decide) ?_
      refine lv_aload_n hx hb dX4_count_59 rfl (lv_at hl 0 rfl) ?_
      obtain ⟨q21, hq22, h⟩ := bd h
      refine kvI (ws' := [(a0, .inr (3, [.ref a_s, .ref a_past, .ref a_kept, .int zisKept, .int zpasts, .ref a_text, .int ztyped, .ref a_measure, .int zmost1, .int zmost3, .int zmost5, .ref a_chosen, .ref a_ways, .int zspot, .int zreason, .int zplaces, .ref a_owners, .ref a_ranks, .ref a_sets, .ref a_toldAt, .ref a_line])), (a_s, .inl (cI, 37, .inl zs)), (a_measure, .inl (cI, 12, .inl zmeasure))]) (wr := [(a_measure, .inl (cI, 12, .inl zmeasure))]) (As := []) F (c_X4_manyWays l D cI cC cH a0 a_s a_past a_kept a_text a_measure a_chosen a_ways a_owners a_ranks a_sets a_toldAt a_line N zs zisKept zpasts ztyped zmost1 zmost3 zmost5 zspot zreason zplaces q21 hq22) yfX4_manyWays ⟨wd3_57, wd3_59, wdp_29⟩ hP hD hS [0, 1] [2] [1, 2, 0] rfl rfl (by decide) (by decide) (by decide) rfl (by decide) 0 3 rfl rfl rfl ⟨Nat.le_of_ble_eq_true rfl, Nat.le_of_ble_eq_true rfl, Nat.zero_le _, Nat.zero_le _⟩ rfl hl rfl (Nat.le_of_ble_eq_true rfl) dX4_count_60 (fun H locs hP hD hS => ?_)
      obtain rfl := Option.some.inj h
      exact hret _ _ _ _ _ rfl hP hD hS dX4_count_63
    · have h := itF h c2
      by_cases c3 : x1 = 2
      · have h := itT h c3
        refine lv_tableIn (tgt := 64) hx hb dX4_count_1 (by rw [c3]; decide) (by rw [c3]; decide) (by rw [c3]; rfl) (by decide) ?_
        refine lv_aload_n hx hb dX4_count_64 rfl (lv_at hl 0 rfl) ?_
        obtain ⟨q19, hq20, h⟩ := bd h
        refine kvI (ws' := [(a0, .inr (3, [.ref a_s, .ref a_past, .ref a_kept, .int zisKept, .int zpasts, .ref a_text, .int ztyped, .ref a_measure, .int q19.2.2.1, .int q19.2.2.2.1, .int q19.2.2.2.2, .ref a_chosen, .ref a_ways, .int zspot, .int zreason, .int zplaces, .ref a_owners, .ref a_ranks, .ref a_sets, .ref a_toldAt, .ref a_line])), (a_s, .inl (cI, 37, .inl zs)), (a_measure, .inl (cI, 12, .inl q19.2.1))]) (wr := []) (As := []) F (c_X4_won l D cI cC cH a0 a_s a_past a_kept a_text a_measure a_chosen a_ways a_owners a_ranks a_sets a_toldAt a_line N zs zisKept zpasts ztyped zmeasure zmost1 zmost3 zmost5 zspot zreason zplaces q19 hq20) yfX4_won ⟨wd3_22, wd3_24, wdp_23⟩ hP hD hS [0, 1, 2] [] [0, 1, 2] rfl rfl (by decide) (by decide) (by decide) rfl (by decide) 0 3 rfl rfl rfl ⟨Nat.le_of_ble_eq_true rfl, Nat.le_of_ble_eq_true rfl, Nat.zero_le _, Nat.zero_le _⟩ rfl hl rfl (Nat.le_of_ble_eq_true rfl) dX4_count_65 (fun H locs hP hD hS => ?_)
        obtain rfl := Option.some.inj h
        exact hret _ _ _ _ _ rfl hP hD hS dX4_count_68
      · have h := itF h c3
        by_cases c4 : x1 = 3
        · have h := itT h c4
          refine lv_tableIn (tgt := 69) hx hb dX4_count_1 (by rw [c4]; decide) (by rw [c4]; decide) (by rw [c4]; rfl) (by decide) ?_
          refine lv_aload_n hx hb dX4_count_69 rfl (lv_at hl 0 rfl) ?_
          obtain ⟨q15, hq16, h⟩ := bd h
          refine kvI (ws' := [(a0, .inr (3, [.ref a_s, .ref a_past, .ref a_kept, .int zisKept, .int zpasts, .ref a_text, .int ztyped, .ref a_measure, .int zmost1, .int zmost3, .int zmost5, .ref a_chosen, .ref a_ways, .int zspot, .int zreason, .int zplaces, .ref a_owners, .ref a_ranks, .ref a_sets, .ref a_toldAt, .ref a_line])), (a_s, .inl (cI, 37, .inl zs)), (a_measure, .inl (cI, 12, .inl zmeasure))]) (wr := [(a_measure, .inl (cI, 12, .inl zmeasure))]) (As := []) F (c_X4_all l D cI cC cH a0 a_s a_past a_kept a_text a_measure a_chosen a_ways a_owners a_ranks a_sets a_toldAt a_line N zs zisKept zpasts ztyped zmost1 zmost3 zmost5 zspot zreason zplaces q15 hq16) yfX4_all ⟨wd3_61, wd3_63, wdp_30⟩ hP hD hS [0, 1] [2] [1, 2, 0] rfl rfl (by decide) (by decide) (by decide) rfl (by decide) 0 3 rfl rfl rfl ⟨Nat.le_of_ble_eq_true rfl, Nat.le_of_ble_eq_true rfl, Nat.zero_le _, Nat.zero_le _⟩ rfl hl rfl (Nat.le_of_ble_eq_true rfl) dX4_count_70 (fun H locs hP hD hS => ?_)
          refine lv_aload_n hx hb dX4_count_73 rfl (lv_at hl 0 rfl) ?_
          obtain ⟨q17, hq18, h⟩ := bd h
          refine kvI (ws' := [(a0, .inr (3, [.ref a_s, .ref a_past, .ref a_kept, .int zisKept, .int zpasts, .ref a_text, .int ztyped, .ref a_measure, .int q17.2.2.1, .int q17.2.2.2.1, .int q17.2.2.2.2, .ref a_chosen, .ref a_ways, .int zspot, .int zreason, .int zplaces, .ref a_owners, .ref a_ranks, .ref a_sets, .ref a_toldAt, .ref a_line])), (a_s, .inl (cI, 37, .inl zs)), (a_measure, .inl (cI, 12, .inl q17.2.1))]) (wr := []) (As := []) F (c_X4_won l D cI cC cH a0 a_s a_past a_kept a_text a_measure a_chosen a_ways a_owners a_ranks a_sets a_toldAt a_line N zs zisKept zpasts ztyped zmeasure zmost1 zmost3 zmost5 zspot zreason zplaces q17 hq18) yfX4_won ⟨wd3_22, wd3_24, wdp_23⟩ hP hD hS [0, 1, 2] [] [0, 1, 2] rfl rfl (by decide) (by decide) (by decide) rfl (by decide) 0 3 rfl rfl rfl ⟨Nat.le_of_ble_eq_true rfl, Nat.le_of_ble_eq_true rfl, Nat.zero_le _, Nat.zero_le _⟩ rfl hl rfl (Nat.le_of_ble_eq_true rfl) dX4_count_74 (fun H locs hP hD hS => ?_)
          refine lv_isub hx hb dX4_count_77 ?_
          obtain rfl := Option.some.inj h
          exact hret _ _ _ _ _ rfl hP hD hS dX4_count_78
        · have h := itF h c4
          by_cases c5 : x1 = 4
          · have h := itT h c5
            refine lv_tableIn (tgt := 79) hx hb dX4_count_1 (by rw [c5]; decide) (by rw [c5]; decide) (by rw [c5]; rfl) (by decide) ?_
            refine lv_aload_n hx hb dX4_count_79 rfl (lv_at hl 0 rfl) ?_
            obtain ⟨q13, hq14, h⟩ := bd h
            refine kvI (ws' := [(a0, .inr (3, [.ref a_s, .ref a_past, .ref a_kept, .int zisKept, .int zpasts, .ref a_text, .int ztyped, .ref a_measure, .int zmost1, .int zmost3, .int zmost5, .ref a_chosen, .ref a_ways, .int zspot, .int zreason, .int zplaces, .ref a_owners, .ref a_ranks, .ref a_sets, .ref a_toldAt, .ref a_line])), (a_s, .inl (cI, 37, .inl zs)), (a_measure, .inl (cI, 12, .inl zmeasure))]) (wr := [(a_measure, .inl (cI, 12, .inl zmeasure))]) (As := []) F (c_X4_dead l D cI cC cH a0 a_s a_past a_kept a_text a_measure a_chosen a_ways a_owners a_ranks a_sets a_toldAt a_line N zs zisKept zpasts ztyped zmost1 zmost3 zmost5 zspot zreason zplaces q13 hq14) yfX4_dead ⟨wd3_65, wd3_67, wdp_31⟩ hP hD hS [0, 1] [2] [1, 2, 0] rfl rfl (by decide) (by decide) (by decide) rfl (by decide) 0 3 rfl rfl rfl ⟨Nat.le_of_ble_eq_true rfl, Nat.le_of_ble_eq_true rfl, Nat.zero_le _, Nat.zero_le _⟩ rfl hl rfl (Nat.le_of_ble_eq_true rfl) dX4_count_80 (fun H locs hP hD hS => ?_)
            obtain rfl := Option.some.inj h
            exact hret _ _ _ _ _ rfl hP hD hS dX4_count_83
          · have h := itF h c5
            by_cases c6 : x1 = 5
            · have h := itT h c6
              refine lv_tableIn (tgt := 84) hx hb dX4_count_1 (by rw [c6]; decide) (by rw [c6]; decide) (by rw [c6]; rfl) (by decide) ?_
              refine lv_aload_n hx hb dX4_count_84 rfl (lv_at hl 0 rfl) ?_
              obtain ⟨q11, hq12, h⟩ := bd h
              refine kvI (ws' := [(a0, .inr (3, [.ref a_s, .ref a_past, .ref a_kept, .int zisKept, .int zpasts, .ref a_text, .int ztyped, .ref a_measure, .int zmost1, .int zmost3, .int zmost5, .ref a_chosen, .ref a_ways, .int zspot, .int zreason, .int zplaces, .ref a_owners, .ref a_ranks, .ref a_sets, .ref a_toldAt, .ref a_line])), (a_s, .inl (cI, 37, .inl zs)), (a_measure, .inl (cI, 12, .inl zmeasure))]) (wr := [(a_measure, .inl (cI, 12, .inl zmeasure))]) (As := []) F (c_X4_greatest l D cI cC cH a0 a_s a_past a_kept a_text a_measure a_chosen a_ways a_owners a_ranks a_sets a_toldAt a_line N zs zisKept zpasts ztyped zmost1 zmost3 zmost5 zspot zreason zplaces q11 hq12) yfX4_greatest ⟨wd3_69, wd3_71, wdp_32⟩ hP hD hS [0, 1] [2] [1, 2, 0] rfl rfl (by decide) (by decide) (by decide) rfl (by decide) 0 3 rfl rfl rfl ⟨Nat.le_of_ble_eq_true rfl, Nat.le_of_ble_eq_true rfl, Nat.zero_le _, Nat.zero_le _⟩ rfl hl rfl (Nat.le_of_ble_eq_true rfl) dX4_count_85 (fun H locs hP hD hS => ?_)
              obtain rfl := Option.some.inj h
              exact hret _ _ _ _ _ rfl hP hD hS dX4_count_88
            · have h := itF h c6
              by_cases c7 : x1 = 6
              · have h := itT h c7
                refine lv_tableIn (tgt := 89) hx hb dX4_count_1 (by rw [c7]; decide) (by rw [c7]; decide) (by rw [c7]; rfl) (by decide) ?_
                refine lv_aload_n hx hb dX4_count_89 rfl (lv_at hl 0 rfl) ?_
                refine va_get (D := D) (ci := 3) (v := .int zpasts) (C := RX4) (T := TX4) (N := 21) hx hb hts inG4 hown hK hP 0 rfl rfl 4 (by decide) (hts _ wd2_156) (fun _ h9 => h9) rfl dX4_count_90 ?_
                obtain rfl := Option.some.inj h
                exact hret _ _ _ _ _ rfl hP hD hS dX4_count_93
              · have h := itF h c7
                by_cases c8 : x1 = 7
                · have h := itT h c8
                  refine lv_tableIn (tgt := 94) hx hb dX4_count_1 (by rw [c8]; decide) (by rw [c8]; decide) (by rw [c8]; rfl) (by decide) ?_
                  refine lv_aload_n hx hb dX4_count_94 rfl (lv_at hl 0 rfl) ?_
                  refine va_get (D := D) (ci := 3) (v := .int ztyped) (C := RX4) (T := TX4) (N := 21) hx hb hts inG4 hown hK hP 0 rfl rfl 6 (by decide) (hts _ wd2_158) (fun _ h9 => h9) rfl dX4_count_95 ?_
                  obtain rfl := Option.some.inj h
                  exact hret _ _ _ _ _ rfl hP hD hS dX4_count_98
                · have h := itF h c8
                  by_cases c9 : x1 = 8
                  · have h := itT h c9
                    refine lv_tableIn (tgt := 99) hx hb dX4_count_1 (by rw [c9]; decide) (by rw [c9]; decide) (by rw [c9]; rfl) (by decide) ?_
                    refine lv_aload_n hx hb dX4_count_99 rfl (lv_at hl 0 rfl) ?_
                    refine va_get (D := D) (ci := 3) (v := .int zisKept) (C := RX4) (T := TX4) (N := 21) hx hb hts inG4 hown hK hP 0 rfl rfl 3 (by decide) (hts _ wd2_155) (fun _ h9 => h9) rfl dX4_count_100 ?_
                    refine lv_if_eq (tgt := 110) hx hb dX4_count_103 (by decide) (fun c10 => ?_) (fun c10 => ?_)
                    · have h := itT h c10
                      refine lv_iconst (v := 0) hx hb dX4_count_110 (by decide) ?_
                      obtain rfl := Option.some.inj h
                      exact hret _ _ _ _ _ rfl hP hD hS dX4_count_111
                    · have h := itF h c10
                      refine lv_iconst (v := 1) hx hb dX4_count_106 (by decide) ?_
                      refine lv_goto (tgt := 111) hx hb dX4_count_107 (by decide) ?_
                      obtain rfl := Option.some.inj h
                      exact hret _ _ _ _ _ rfl hP hD hS dX4_count_111
                  · have h := itF h c9
                    have e9 : (x1).toInt ≠ 0 ∧ (x1).toInt ≠ 1 ∧ (x1).toInt ≠ 2 ∧ (x1).toInt ≠ 3 ∧ (x1).toInt ≠ 4 ∧ (x1).toInt ≠ 5 ∧ (x1).toInt ≠ 6 ∧ (x1).toInt ≠ 7 ∧ (x1).toInt ≠ 8 := ⟨neI c1 (by decide), neI c2 (by decide), neI c3 (by decide), neI c4 (by decide), neI c5 (by decide), neI c6 (by decide), neI c7 (by decide), neI c8 (by decide), neI c9 (by decide)⟩
                    refine lv_tableOut (tgt := 112) hx hb dX4_count_1 (by omega) (by decide) ?_
                    refine lv_iconst (v := (-1)) hx hb dX4_count_112 (by decide) ?_
                    obtain rfl := Option.some.inj h
                    exact hret _ _ _ _ _ rfl hP hD hS dX4_count_113
