def f_X4_isSet (N : Nat) (x1 : Int32) (x2 : Int32) (zs : Nat → Int32) : Option (Int32) :=
    Option.bind (f_X4_in N x1 0 1) (fun q1 => if q1 = 0 then (some 0) else (Option.bind (f_X4_all N zs) (fun q4 => Option.bind (f_X4_in N x2 0 q4) (fun q6 => if q6 = 0 then (some 0) else (some 1)))))
set_option maxHeartbeats 4000000 in
set_option maxRecDepth 100000 in
theorem c_X4_isSet (l : Launch) (D : va_G) (cI cC cH : ClassId) (a0 : Nat) (a_s : Nat) (a_past : Nat) (a_kept : Nat) (a_text : Nat) (a_measure : Nat) (a_chosen : Nat) (a_ways : Nat) (a_owners : Nat) (a_ranks : Nat) (a_sets : Nat) (a_toldAt : Nat) (a_line : Nat) (N : Nat) (x1 : Int32) (x2 : Int32) (zs : Nat → Int32) (zisKept : Int32) (zpasts : Int32) (ztyped : Int32) (zmost1 : Int32) (zmost3 : Int32) (zmost5 : Int32) (zspot : Int32) (zreason : Int32) (zplaces : Int32) (y : Int32) (h : f_X4_isSet N x1 x2 zs = some y) : CTi l yX4_isSet cX4_isSet 3 (some .boolean) 1 22 D (tyL cI cC cH) [.ref a0, .int x1, .int x2] [(a0, .inr (3, [.ref a_s, .ref a_past, .ref a_kept, .int zisKept, .int zpasts, .ref a_text, .int ztyped, .ref a_measure, .int zmost1, .int zmost3, .int zmost5, .ref a_chosen, .ref a_ways, .int zspot, .int zreason, .int zplaces, .ref a_owners, .ref a_ranks, .ref a_sets, .ref a_toldAt, .ref a_line])), (a_s, .inl (cI, 37, .inl zs))] [(a0, .inr (3, [.ref a_s, .ref a_past, .ref a_kept, .int zisKept, .int zpasts, .ref a_text, .int ztyped, .ref a_measure, .int zmost1, .int zmost3, .int zmost5, .ref a_chosen, .ref a_ways, .int zspot, .int zreason, .int zplaces, .ref a_owners, .ref a_ranks, .ref a_sets, .ref a_toldAt, .ref a_line])), (a_s, .inl (cI, 37, .inl zs))] y := by
  unfold f_X4_isSet at h
  refine ctZ (by decide) (Nat.le_of_ble_eq_true rfl) ?_
  intro p e s m args below meth c A Q ls F hret hP hD hS hl
  have hx := F.1
  have hb := F.2.1
  have hown : s.vm.findClass RX4 = some m.cls := F.2.2.2.1
  have hts := F.2.2.2.2.1
  have hN := F.2.2.2.2.2.1
  have hK := F.2.2.2.2.2.2.1
  have hl : lv_has ls 3 [(0, .ref a0), (1, .int x1), (2, .int x2)] := hl
  refine lv_iload_n hx hb dX4_isSet_0 rfl (lv_at hl 1 rfl) ?_
  refine lv_iconst (v := 0) hx hb dX4_isSet_1 (by decide) ?_
  refine lv_iconst (v := 1) hx hb dX4_isSet_2 (by decide) ?_
  obtain ⟨q1, hq2, h⟩ := bd h
  refine ks0 (As := [.int x1, .int 0, .int 1]) F (c_X4_in l D cI cC cH  N x1 0 1 q1 hq2) yfX4_in ⟨wd2_220, wd2_221⟩ hP hD hS ⟨Nat.le_of_ble_eq_true rfl, Nat.le_of_ble_eq_true rfl, Nat.zero_le _, Nat.zero_le _⟩ rfl hl rfl (Nat.le_of_ble_eq_true rfl) dX4_isSet_3 (fun H locs hP hD hS => ?_)
  refine lv_if_eq (tgt := 25) hx hb dX4_isSet_6 (by decide) (fun c3 => ?_) (fun c3 => ?_)
  · have h := itT h c3
    refine lv_iconst (v := 0) hx hb dX4_isSet_25 (by decide) ?_
    obtain rfl := Option.some.inj h
    exact hret _ _ _ _ _ rfl rfl hP hD hS dX4_isSet_26
  · have h := itF h c3
    refine lv_iload_n hx hb dX4_isSet_9 rfl (lv_at hl 2 rfl) ?_
    refine lv_iconst (v := 0) hx hb dX4_isSet_10 (by decide) ?_
    refine lv_aload_n hx hb dX4_isSet_11 rfl (lv_at hl 0 rfl) ?_
    obtain ⟨q4, hq5, h⟩ := bd h
    refine kvI (ws' := [(a0, .inr (3, [.ref a_s, .ref a_past, .ref a_kept, .int zisKept, .int zpasts, .ref a_text, .int ztyped, .ref a_measure, .int zmost1, .int zmost3, .int zmost5, .ref a_chosen, .ref a_ways, .int zspot, .int zreason, .int zplaces, .ref a_owners, .ref a_ranks, .ref a_sets, .ref a_toldAt, .ref a_line])), (a_s, .inl (cI, 37, .inl zs))]) (wr := []) (As := []) F (c_X4_all l D cI cC cH a0 a_s a_past a_kept a_text a_measure a_chosen a_ways a_owners a_ranks a_sets a_toldAt a_line N zs zisKept zpasts ztyped zmost1 zmost3 zmost5 zspot zreason zplaces q4 hq5) yfX4_all ⟨wd3_61, wd3_63, wdp_30⟩ hP hD hS [0, 1] [] [0, 1] rfl rfl (by decide) (by decide) (by decide) rfl (by decide) 0 3 rfl rfl rfl ⟨Nat.le_of_ble_eq_true rfl, Nat.le_of_ble_eq_true rfl, Nat.zero_le _, Nat.zero_le _⟩ rfl hl rfl (Nat.le_of_ble_eq_true rfl) dX4_isSet_12 (fun H locs hP hD hS => ?_)
    obtain ⟨q6, hq7, h⟩ := bd h
    refine ks0 (As := [.int x2, .int 0, .int q4]) F (c_X4_in l D cI cC cH  N x2 0 q4 q6 hq7) yfX4_in ⟨wd2_220, wd2_221⟩ hP hD hS ⟨Nat.le_of_ble_eq_true rfl, Nat.le_of_ble_eq_true rfl, Nat.zero_le _, Nat.zero_le _⟩ rfl hl rfl (Nat.le_of_ble_eq_true rfl) dX4_isSet_15 (fun H locs hP hD hS => ?_)
    refine lv_if_eq (tgt := 25) hx hb dX4_isSet_18 (by decide) (fun c8 => ?_) (fun c8 => ?_)
    · have h := itT h c8
      refine lv_iconst (v := 0) hx hb dX4_isSet_25 (by decide) ?_
      obtain rfl := Option.some.inj h
      exact hret _ _ _ _ _ rfl rfl hP hD hS dX4_isSet_26
    · have h := itF h c8
      refine lv_iconst (v := 1) hx hb dX4_isSet_21 (by decide) ?_
      refine lv_goto (tgt := 26) hx hb dX4_isSet_22 (by decide) ?_
      obtain rfl := Option.some.inj h
      exact hret _ _ _ _ _ rfl rfl hP hD hS dX4_isSet_26
def f_X4_pulls_L5 (N : Nat) (x1_5 : Int32) (x2_5 : Int32) (zs_5 : Nat → Int32) : Nat → Int32 → Int32 → Option (Int32)
  | 0, _, _ => none
  | n_5 + 1, x3_5, x4_5 =>
    chk (gi 0 37) (if (zs_5 (Int32.toNatClampNeg 0)) ≤ x4_5 then (some x3_5) else (chk (gi (25 + x4_5) 37) (chk (gi (1 + x4_5) 37) (Option.bind (α := Int32) (if (zs_5 (Int32.toNatClampNeg (1 + x4_5))) = x1_5 then (if ((zs_5 (Int32.toNatClampNeg (25 + x4_5))) &&& x2_5) = 0 then (some (0)) else (some (1))) else (if (zs_5 (Int32.toNatClampNeg (25 + x4_5))) = 0 then (some (0)) else (if ((zs_5 (Int32.toNatClampNeg (25 + x4_5))) &&& (x2_5 ^^^ (-1))) = 0 then (some (1)) else (some (0))))) (fun q6 => Option.bind (α := Int32) (if q6 = 0 then (some (0)) else (some ((1 : Int32) <<< (x4_5 &&& 31)))) (fun q13 => f_X4_pulls_L5 N x1_5 x2_5 zs_5 n_5 (x3_5 ||| q13) (x4_5 + 1)))))))
def f_X4_pulls (N : Nat) (x1 : Int32) (x2 : Int32) (zs : Nat → Int32) : Option (Int32) :=
    Option.bind (f_X4_pulls_L5 N x1 x2 zs N x2 0) (fun q19 => some q19)
set_option maxHeartbeats 4000000 in
set_option maxRecDepth 100000 in
theorem c_X4_pulls (l : Launch) (D : va_G) (cI cC cH : ClassId) (a0 : Nat) (a_s : Nat) (a_past : Nat) (a_kept : Nat) (a_text : Nat) (a_measure : Nat) (a_chosen : Nat) (a_ways : Nat) (a_owners : Nat) (a_ranks : Nat) (a_sets : Nat) (a_toldAt : Nat) (a_line : Nat) (N : Nat) (x1 : Int32) (x2 : Int32) (zs : Nat → Int32) (zisKept : Int32) (zpasts : Int32) (ztyped : Int32) (zmost1 : Int32) (zmost3 : Int32) (zmost5 : Int32) (zspot : Int32) (zreason : Int32) (zplaces : Int32) (y : Int32) (h : f_X4_pulls N x1 x2 zs = some y) : CTi l yX4_pulls cX4_pulls 7 (some .int) 0 0 D (tyL cI cC cH) [.ref a0, .int x1, .int x2] [(a0, .inr (3, [.ref a_s, .ref a_past, .ref a_kept, .int zisKept, .int zpasts, .ref a_text, .int ztyped, .ref a_measure, .int zmost1, .int zmost3, .int zmost5, .ref a_chosen, .ref a_ways, .int zspot, .int zreason, .int zplaces, .ref a_owners, .ref a_ranks, .ref a_sets, .ref a_toldAt, .ref a_line])), (a_s, .inl (cI, 37, .inl zs))] [(a0, .inr (3, [.ref a_s, .ref a_past, .ref a_kept, .int zisKept, .int zpasts, .ref a_text, .int ztyped, .ref a_measure, .int zmost1, .int zmost3, .int zmost5, .ref a_chosen, .ref a_ways, .int zspot, .int zreason, .int zplaces, .ref a_owners, .ref a_ranks, .ref a_sets, .ref a_toldAt, .ref a_line])), (a_s, .inl (cI, 37, .inl zs))] y := by
  unfold f_X4_pulls at h
  refine ctI (by decide) (Nat.le_of_ble_eq_true rfl) ?_
  intro p e s m args below meth c A Q ls F hret hP hD hS hl
  have hx := F.1
  have hb := F.2.1
  have hown : s.vm.findClass RX4 = some m.cls := F.2.2.2.1
  have hts := F.2.2.2.2.1
  have hN := F.2.2.2.2.2.1
  have hK := F.2.2.2.2.2.2.1
  have hl : lv_has ls 7 [(0, .ref a0), (1, .int x1), (2, .int x2)] := hl
  refine lv_iload_n hx hb dX4_pulls_0 rfl (lv_at hl 2 rfl) ?_
  refine lv_istore_n (lv' := [(3, .int x2), (0, .ref a0), (1, .int x1), (2, .int x2)]) hx hb dX4_pulls_1 rfl hl (by decide) rfl (fun ls hl => ?_)
  refine lv_iconst (v := 0) hx hb dX4_pulls_2 (by decide) ?_
  refine lv_istore (lv' := [(4, .int 0), (3, .int x2), (0, .ref a0), (1, .int x1), (2, .int x2)]) hx hb dX4_pulls_3 hl (by decide) rfl (fun ls hl => ?_)
  have L_5 : ∀ (x1_5 : Int32) (x2_5 : Int32) (zs_5 : Nat → Int32) (zisKept_5 : Int32) (zpasts_5 : Int32) (ztyped_5 : Int32) (zmost1_5 : Int32) (zmost3_5 : Int32) (zmost5_5 : Int32) (zspot_5 : Int32) (zreason_5 : Int32) (zplaces_5 : Int32), ∀ (n_5 : Nat) (x3_5 : Int32) (x4_5 : Int32) (q18 : (Int32)), f_X4_pulls_L5 N x1_5 x2_5 zs_5 n_5 x3_5 x4_5 = some q18 → (∀ (ls : Array Slot) (H : Heap) (locs : List Loc), lv_has ls 7 [(3, .int q18)] → va_P D vwCl [(a0, .inr (3, [.ref a_s, .ref a_past, .ref a_kept, .int zisKept_5, .int zpasts_5, .ref a_text, .int ztyped_5, .ref a_measure, .int zmost1_5, .int zmost3_5, .int zmost5_5, .ref a_chosen, .ref a_ways, .int zspot_5, .int zreason_5, .int zplaces_5, .ref a_owners, .ref a_ranks, .ref a_sets, .ref a_toldAt, .ref a_line])), (a_s, .inl (cI, 37, .inl zs_5))] H → va_D A [(a0, .inr (3, [.ref a_s, .ref a_past, .ref a_kept, .int zisKept_5, .int zpasts_5, .ref a_text, .int ztyped_5, .ref a_measure, .int zmost1_5, .int zmost3_5, .int zmost5_5, .ref a_chosen, .ref a_ways, .int zspot_5, .int zreason_5, .int zplaces_5, .ref a_owners, .ref a_ranks, .ref a_sets, .ref a_toldAt, .ref a_line])), (a_s, .inl (cI, 37, .inl zs_5))] → va_S A s.heap H locs → W p l e (rmm 0 0) s m args below meth c H locs 0 0 Q (F0 m 99 ls [])) → ∀ (ls : Array Slot) (H : Heap) (locs : List Loc), lv_has ls 7 [(0, .ref a0), (1, .int x1_5), (2, .int x2_5), (3, .int x3_5), (4, .int x4_5)] → va_P D vwCl [(a0, .inr (3, [.ref a_s, .ref a_past, .ref a_kept, .int zisKept_5, .int zpasts_5, .ref a_text, .int ztyped_5, .ref a_measure, .int zmost1_5, .int zmost3_5, .int zmost5_5, .ref a_chosen, .ref a_ways, .int zspot_5, .int zreason_5, .int zplaces_5, .ref a_owners, .ref a_ranks, .ref a_sets, .ref a_toldAt, .ref a_line])), (a_s, .inl (cI, 37, .inl zs_5))] H → va_D A [(a0, .inr (3, [.ref a_s, .ref a_past, .ref a_kept, .int zisKept_5, .int zpasts_5, .ref a_text, .int ztyped_5, .ref a_measure, .int zmost1_5, .int zmost3_5, .int zmost5_5, .ref a_chosen, .ref a_ways, .int zspot_5, .int zreason_5, .int zplaces_5, .ref a_owners, .ref a_ranks, .ref a_sets, .ref a_toldAt, .ref a_line])), (a_s, .inl (cI, 37, .inl zs_5))] → va_S A s.heap H locs → W p l e (rmm 0 0) s m args below meth c H locs 0 0 Q (F0 m 5 ls []) := by
    intro x1_5 x2_5 zs_5 zisKept_5 zpasts_5 ztyped_5 zmost1_5 zmost3_5 zmost5_5 zspot_5 zreason_5 zplaces_5 n_5
    induction n_5 with
    | zero => intro x3_5 x4_5 q18 h; exact no_s h
    | succ n_5 ih_5 =>
      intro x3_5 x4_5 q18 h J_5 ls H locs hl hP hD hS
      rw [f_X4_pulls_L5] at h
      refine lv_iload hx hb dX4_pulls_5 (lv_at hl 4 rfl) ?_
      refine lv_aload_n hx hb dX4_pulls_7 rfl (lv_at hl 0 rfl) ?_
      refine va_get (D := D) (ci := 3) (v := .ref a_s) (C := RX4) (T := TX4) (N := 21) hx hb hts inG4 hown hK hP 0 rfl rfl 0 (by decide) (hts _ wd2_152) (fun _ h9 => h9) rfl dX4_pulls_8 ?_
      refine lv_iconst (v := 0) hx hb dX4_pulls_11 (by decide) ?_
      obtain ⟨g1, h⟩ := chk_s h
      refine va_iald hx hb hK hP 1 0 rfl rfl (gi_in g1) dX4_pulls_12 ?_
      refine lv_icmp_ge (tgt := 99) hx hb dX4_pulls_13 (by decide) (fun c2 => ?_) (fun c2 => ?_)
      · have h := itT h c2
        obtain rfl := Option.some.inj h
        exact J_5 _ _ _ (lv_sub hl [3] rfl) hP hD hS
      · have h := itF h c2
        refine lv_aload_n hx hb dX4_pulls_16 rfl (lv_at hl 0 rfl) ?_
        refine va_get (D := D) (ci := 3) (v := .ref a_s) (C := RX4) (T := TX4) (N := 21) hx hb hts inG4 hown hK hP 0 rfl rfl 0 (by decide) (hts _ wd2_152) (fun _ h9 => h9) rfl dX4_pulls_17 ?_
        refine lv_bipush (v := 25) hx hb dX4_pulls_20 (by decide) ?_
        refine lv_iload hx hb dX4_pulls_22 (lv_at hl 4 rfl) ?_
        refine lv_iadd hx hb dX4_pulls_24 ?_
        obtain ⟨g3, h⟩ := chk_s h
        refine va_iald hx hb hK hP 1 0 rfl rfl (gi_in g3) dX4_pulls_25 ?_
        refine lv_istore (lv' := [(5, .int (zs_5 (Int32.toNatClampNeg (25 + x4_5)))), (0, .ref a0), (1, .int x1_5), (2, .int x2_5), (3, .int x3_5), (4, .int x4_5)]) hx hb dX4_pulls_26 hl (by decide) rfl (fun ls hl => ?_)
        refine lv_aload_n hx hb dX4_pulls_28 rfl (lv_at hl 1 rfl) ?_
        refine va_get (D := D) (ci := 3) (v := .ref a_s) (C := RX4) (T := TX4) (N := 21) hx hb hts inG4 hown hK hP 0 rfl rfl 0 (by decide) (hts _ wd2_152) (fun _ h9 => h9) rfl dX4_pulls_29 ?_
        refine lv_iconst (v := 1) hx hb dX4_pulls_32 (by decide) ?_
        refine lv_iload hx hb dX4_pulls_33 (lv_at hl 5 rfl) ?_
        refine lv_iadd hx hb dX4_pulls_35 ?_
        obtain ⟨g4, h⟩ := chk_s h
        refine va_iald hx hb hK hP 1 0 rfl rfl (gi_in g4) dX4_pulls_36 ?_
        refine lv_iload_n hx hb dX4_pulls_37 rfl (lv_at hl 2 rfl) ?_
        obtain ⟨q6, hb17, h⟩ := bd h
        have J7 : ∀ (ls : Array Slot) (H : Heap) (locs : List Loc), lv_has ls 7 [(0, .ref a0), (1, .int x1_5), (2, .int x2_5), (3, .int x3_5), (4, .int x4_5)] → va_P D vwCl [(a0, .inr (3, [.ref a_s, .ref a_past, .ref a_kept, .int zisKept_5, .int zpasts_5, .ref a_text, .int ztyped_5, .ref a_measure, .int zmost1_5, .int zmost3_5, .int zmost5_5, .ref a_chosen, .ref a_ways, .int zspot_5, .int zreason_5, .int zplaces_5, .ref a_owners, .ref a_ranks, .ref a_sets, .ref a_toldAt, .ref a_line])), (a_s, .inl (cI, 37, .inl zs_5))] H → va_D A [(a0, .inr (3, [.ref a_s, .ref a_past, .ref a_kept, .int zisKept_5, .int zpasts_5, .ref a_text, .int ztyped_5, .ref a_measure, .int zmost1_5, .int zmost3_5, .int zmost5_5, .ref a_chosen, .ref a_ways, .int zspot_5, .int zreason_5, .int zplaces_5, .ref a_owners, .ref a_ranks, .ref a_sets, .ref a_toldAt, .ref a_line])), (a_s, .inl (cI, 37, .inl zs_5))] → va_S A s.heap H locs → W p l e (rmm 0 0) s m args below meth c H locs 0 0 Q (F0 m 75 ls [.int q6]) := by
          intro ls H locs hl hP hD hS
          refine lv_istore (lv' := [(6, .int q6), (0, .ref a0), (1, .int x1_5), (2, .int x2_5), (3, .int x3_5), (4, .int x4_5)]) hx hb dX4_pulls_75 hl (by decide) rfl (fun ls hl => ?_)
          refine lv_iload_n hx hb dX4_pulls_77 rfl (lv_at hl 4 rfl) ?_
          refine lv_iload hx hb dX4_pulls_78 (lv_at hl 0 rfl) ?_
          obtain ⟨q13, hb16, h⟩ := bd h
          have J14 : ∀ (ls : Array Slot) (H : Heap) (locs : List Loc), lv_has ls 7 [(0, .ref a0), (1, .int x1_5), (2, .int x2_5), (4, .int x4_5)] → va_P D vwCl [(a0, .inr (3, [.ref a_s, .ref a_past, .ref a_kept, .int zisKept_5, .int zpasts_5, .ref a_text, .int ztyped_5, .ref a_measure, .int zmost1_5, .int zmost3_5, .int zmost5_5, .ref a_chosen, .ref a_ways, .int zspot_5, .int zreason_5, .int zplaces_5, .ref a_owners, .ref a_ranks, .ref a_sets, .ref a_toldAt, .ref a_line])), (a_s, .inl (cI, 37, .inl zs_5))] H → va_D A [(a0, .inr (3, [.ref a_s, .ref a_past, .ref a_kept, .int zisKept_5, .int zpasts_5, .ref a_text, .int ztyped_5, .ref a_measure, .int zmost1_5, .int zmost3_5, .int zmost5_5, .ref a_chosen, .ref a_ways, .int zspot_5, .int zreason_5, .int zplaces_5, .ref a_owners, .ref a_ranks, .ref a_sets, .ref a_toldAt, .ref a_line])), (a_s, .inl (cI, 37, .inl zs_5))] → va_S A s.heap H locs → W p l e (rmm 0 0) s m args below meth c H locs 0 0 Q (F0 m 91 ls [.int q13, .int x3_5]) := by
            intro ls H locs hl hP hD hS
            refine lv_ior hx hb dX4_pulls_91 ?_
            refine lv_istore_n (lv' := [(3, .int (x3_5 ||| q13)), (0, .ref a0), (1, .int x1_5), (2, .int x2_5), (4, .int x4_5)]) hx hb dX4_pulls_92 rfl hl (by decide) rfl (fun ls hl => ?_)
            refine lv_iinc (v := x4_5 + 1) (lv' := [(4, .int (x4_5 + 1)), (3, .int (x3_5 ||| q13)), (0, .ref a0), (1, .int x1_5), (2, .int x2_5)]) hx hb dX4_pulls_93 hl (k := 4) rfl rfl (by decide) rfl (fun ls hl => ?_)
            refine lv_goto (tgt := 5) hx hb dX4_pulls_96 (by decide) ?_
            exact ih_5 (x3_5 ||| q13) (x4_5 + 1) _ h J_5 _ _ _ (lv_sub hl [2, 3, 4, 1, 0] rfl) hP hD hS
          clear h
          have h := hb16
          clear hb16
          refine lv_if_eq (tgt := 90) hx hb dX4_pulls_80 (by decide) (fun c12 => ?_) (fun c12 => ?_)
          · have h := itT h c12
            refine lv_iconst (v := 0) hx hb dX4_pulls_90 (by decide) ?_
            obtain rfl := Option.some.inj h
            exact J14 _ _ _ (lv_sub hl [1, 2, 3, 5] rfl) hP hD hS
          · have h := itF h c12
            refine lv_iconst (v := 1) hx hb dX4_pulls_83 (by decide) ?_
            refine lv_iload hx hb dX4_pulls_84 (lv_at hl 5 rfl) ?_
            refine lv_ishl hx hb dX4_pulls_86 ?_
            refine lv_goto (tgt := 91) hx hb dX4_pulls_87 (by decide) ?_
            obtain rfl := Option.some.inj h
            exact J14 _ _ _ (lv_sub hl [1, 2, 3, 5] rfl) hP hD hS
        clear h
        have h := hb17
        clear hb17
        refine lv_icmp_ne (tgt := 56) hx hb dX4_pulls_38 (by decide) (fun c5 => ?_) (fun c5 => ?_)
        · have h := itF h c5
          refine lv_iload hx hb dX4_pulls_56 (lv_at hl 0 rfl) ?_
          refine lv_if_eq (tgt := 74) hx hb dX4_pulls_58 (by decide) (fun c9 => ?_) (fun c9 => ?_)
          · have h := itT h c9
            refine lv_iconst (v := 0) hx hb dX4_pulls_74 (by decide) ?_
            obtain rfl := Option.some.inj h
            exact J7 _ _ _ (lv_sub hl [1, 2, 3, 4, 5] rfl) hP hD hS
          · have h := itF h c9
            refine lv_iload hx hb dX4_pulls_61 (lv_at hl 0 rfl) ?_
            refine lv_iload_n hx hb dX4_pulls_63 rfl (lv_at hl 3 rfl) ?_
            refine lv_iconst (v := (-1)) hx hb dX4_pulls_64 (by decide) ?_
            refine lv_ixor hx hb dX4_pulls_65 ?_
            refine lv_iand hx hb dX4_pulls_66 ?_
            refine lv_if_ne (tgt := 74) hx hb dX4_pulls_67 (by decide) (fun c10 => ?_) (fun c10 => ?_)
            · have h := itF h c10
              refine lv_iconst (v := 0) hx hb dX4_pulls_74 (by decide) ?_
              obtain rfl := Option.some.inj h
              exact J7 _ _ _ (lv_sub hl [1, 2, 3, 4, 5] rfl) hP hD hS
            · have h := itT h c10
              refine lv_iconst (v := 1) hx hb dX4_pulls_70 (by decide) ?_
              refine lv_goto (tgt := 75) hx hb dX4_pulls_71 (by decide) ?_
              obtain rfl := Option.some.inj h
              exact J7 _ _ _ (lv_sub hl [1, 2, 3, 4, 5] rfl) hP hD hS
        · have h := itT h c5
          refine lv_iload hx hb dX4_pulls_41 (lv_at hl 0 rfl) ?_
          refine lv_iload_n hx hb dX4_pulls_43 rfl (lv_at hl 3 rfl) ?_
          refine lv_iand hx hb dX4_pulls_44 ?_
          refine lv_if_eq (tgt := 52) hx hb dX4_pulls_45 (by decide) (fun c11 => ?_) (fun c11 => ?_)
          · have h := itT h c11
            refine lv_iconst (v := 0) hx hb dX4_pulls_52 (by decide) ?_
            refine lv_goto (tgt := 75) hx hb dX4_pulls_53 (by decide) ?_
            obtain rfl := Option.some.inj h
            exact J7 _ _ _ (lv_sub hl [1, 2, 3, 4, 5] rfl) hP hD hS
          · have h := itF h c11
            refine lv_iconst (v := 1) hx hb dX4_pulls_48 (by decide) ?_
            refine lv_goto (tgt := 75) hx hb dX4_pulls_49 (by decide) ?_
            obtain rfl := Option.some.inj h
            exact J7 _ _ _ (lv_sub hl [1, 2, 3, 4, 5] rfl) hP hD hS
  obtain ⟨q19, hb20, h⟩ := bd h
  refine L_5 x1 x2 zs zisKept zpasts ztyped zmost1 zmost3 zmost5 zspot zreason zplaces N x2 0 q19 hb20 ?_ _ _ _ (lv_sub hl [2, 3, 4, 1, 0] rfl) hP hD hS
  intro ls H locs hl hP hD hS
  refine lv_iload_n hx hb dX4_pulls_99 rfl (lv_at hl 0 rfl) ?_
  obtain rfl := Option.some.inj h
  exact hret _ _ _ _ _ rfl hP hD hS dX4_pulls_100
def f_X4_pulled_L16 (N : Nat) (x1_16 : Int32) (zs_16 : Nat → Int32) : Nat → Int32 → Int32 → Option (Int32)
  | 0, _, _ => none
  | n_16 + 1, x3_16, x4_16 =>
    if 12 ≤ x4_16 then (some x3_16) else (Option.bind (f_X4_pulls N x1_16 x3_16 zs_16) (fun q5 => f_X4_pulled_L16 N x1_16 zs_16 n_16 q5 (x4_16 + 1)))
def f_X4_pulled (N : Nat) (x1 : Int32) (x2 : Int32) (zs : Nat → Int32) : Option (Int32) :=
    Option.bind (f_X4_isSet N x1 x2 zs) (fun q1 => if q1 = 0 then (some (-1)) else (Option.bind (f_X4_pulled_L16 N x1 zs N x2 0) (fun q8 => some q8)))
set_option maxHeartbeats 4000000 in
set_option maxRecDepth 100000 in
theorem c_X4_pulled (l : Launch) (D : va_G) (cI cC cH : ClassId) (a0 : Nat) (a_s : Nat) (a_past : Nat) (a_kept : Nat) (a_text : Nat) (a_measure : Nat) (a_chosen : Nat) (a_ways : Nat) (a_owners : Nat) (a_ranks : Nat) (a_sets : Nat) (a_toldAt : Nat) (a_line : Nat) (N : Nat) (x1 : Int32) (x2 : Int32) (zs : Nat → Int32) (zisKept : Int32) (zpasts : Int32) (ztyped : Int32) (zmost1 : Int32) (zmost3 : Int32) (zmost5 : Int32) (zspot : Int32) (zreason : Int32) (zplaces : Int32) (y : Int32) (h : f_X4_pulled N x1 x2 zs = some y) : CTi l yX4_pulled cX4_pulled 5 (some .int) 2 44 D (tyL cI cC cH) [.ref a0, .int x1, .int x2] [(a0, .inr (3, [.ref a_s, .ref a_past, .ref a_kept, .int zisKept, .int zpasts, .ref a_text, .int ztyped, .ref a_measure, .int zmost1, .int zmost3, .int zmost5, .ref a_chosen, .ref a_ways, .int zspot, .int zreason, .int zplaces, .ref a_owners, .ref a_ranks, .ref a_sets, .ref a_toldAt, .ref a_line])), (a_s, .inl (cI, 37, .inl zs))] [(a0, .inr (3, [.ref a_s, .ref a_past, .ref a_kept, .int zisKept, .int zpasts, .ref a_text, .int ztyped, .ref a_measure, .int zmost1, .int zmost3, .int zmost5, .ref a_chosen, .ref a_ways, .int zspot, .int zreason, .int zplaces, .ref a_owners, .ref a_ranks, .ref a_sets, .ref a_toldAt, .ref a_line])), (a_s, .inl (cI, 37, .inl zs))] y := by
  unfold f_X4_pulled at h
  refine ctI (by decide) (Nat.le_of_ble_eq_true rfl) ?_
  intro p e s m args below meth c A Q ls F hret hP hD hS hl
  have hx := F.1
  have hb := F.2.1
  have hown : s.vm.findClass RX4 = some m.cls := F.2.2.2.1
  have hts := F.2.2.2.2.1
  have hN := F.2.2.2.2.2.1
  have hK := F.2.2.2.2.2.2.1
  have hl : lv_has ls 5 [(0, .ref a0), (1, .int x1), (2, .int x2)] := hl
  refine lv_aload_n hx hb dX4_pulled_0 rfl (lv_at hl 0 rfl) ?_
  refine lv_iload_n hx hb dX4_pulled_1 rfl (lv_at hl 1 rfl) ?_
  refine lv_iload_n hx hb dX4_pulled_2 rfl (lv_at hl 2 rfl) ?_
  obtain ⟨q1, hq2, h⟩ := bd h
  refine kvI (ws' := [(a0, .inr (3, [.ref a_s, .ref a_past, .ref a_kept, .int zisKept, .int zpasts, .ref a_text, .int ztyped, .ref a_measure, .int zmost1, .int zmost3, .int zmost5, .ref a_chosen, .ref a_ways, .int zspot, .int zreason, .int zplaces, .ref a_owners, .ref a_ranks, .ref a_sets, .ref a_toldAt, .ref a_line])), (a_s, .inl (cI, 37, .inl zs))]) (wr := []) (As := [.int x1, .int x2]) F (c_X4_isSet l D cI cC cH a0 a_s a_past a_kept a_text a_measure a_chosen a_ways a_owners a_ranks a_sets a_toldAt a_line N x1 x2 zs zisKept zpasts ztyped zmost1 zmost3 zmost5 zspot zreason zplaces q1 hq2) yfX4_isSet ⟨wd3_77, wd3_79, wdp_33⟩ hP hD hS [0, 1] [] [0, 1] rfl rfl (by decide) (by decide) (by decide) rfl (by decide) 0 3 rfl rfl rfl ⟨Nat.le_of_ble_eq_true rfl, Nat.le_of_ble_eq_true rfl, Nat.zero_le _, Nat.zero_le _⟩ rfl hl rfl (Nat.le_of_ble_eq_true rfl) dX4_pulled_3 (fun H locs hP hD hS => ?_)
  refine lv_if_ne (tgt := 11) hx hb dX4_pulled_6 (by decide) (fun c3 => ?_) (fun c3 => ?_)
  · have h := itF h c3
    refine lv_iload_n hx hb dX4_pulled_11 rfl (lv_at hl 2 rfl) ?_
    refine lv_istore_n (lv' := [(3, .int x2), (0, .ref a0), (1, .int x1), (2, .int x2)]) hx hb dX4_pulled_12 rfl hl (by decide) rfl (fun ls hl => ?_)
    refine lv_iconst (v := 0) hx hb dX4_pulled_13 (by decide) ?_
    refine lv_istore (lv' := [(4, .int 0), (3, .int x2), (0, .ref a0), (1, .int x1), (2, .int x2)]) hx hb dX4_pulled_14 hl (by decide) rfl (fun ls hl => ?_)
    have L_16 : ∀ (x1_16 : Int32) (zs_16 : Nat → Int32) (zisKept_16 : Int32) (zpasts_16 : Int32) (ztyped_16 : Int32) (zmost1_16 : Int32) (zmost3_16 : Int32) (zmost5_16 : Int32) (zspot_16 : Int32) (zreason_16 : Int32) (zplaces_16 : Int32), ∀ (n_16 : Nat) (x3_16 : Int32) (x4_16 : Int32) (q7 : (Int32)), f_X4_pulled_L16 N x1_16 zs_16 n_16 x3_16 x4_16 = some q7 → (∀ (ls : Array Slot) (H : Heap) (locs : List Loc), lv_has ls 5 [(3, .int q7)] → va_P D vwCl [(a0, .inr (3, [.ref a_s, .ref a_past, .ref a_kept, .int zisKept_16, .int zpasts_16, .ref a_text, .int ztyped_16, .ref a_measure, .int zmost1_16, .int zmost3_16, .int zmost5_16, .ref a_chosen, .ref a_ways, .int zspot_16, .int zreason_16, .int zplaces_16, .ref a_owners, .ref a_ranks, .ref a_sets, .ref a_toldAt, .ref a_line])), (a_s, .inl (cI, 37, .inl zs_16))] H → va_D A [(a0, .inr (3, [.ref a_s, .ref a_past, .ref a_kept, .int zisKept_16, .int zpasts_16, .ref a_text, .int ztyped_16, .ref a_measure, .int zmost1_16, .int zmost3_16, .int zmost5_16, .ref a_chosen, .ref a_ways, .int zspot_16, .int zreason_16, .int zplaces_16, .ref a_owners, .ref a_ranks, .ref a_sets, .ref a_toldAt, .ref a_line])), (a_s, .inl (cI, 37, .inl zs_16))] → va_S A s.heap H locs → W p l e (rmm 2 44) s m args below meth c H locs 0 0 Q (F0 m 36 ls [])) → ∀ (ls : Array Slot) (H : Heap) (locs : List Loc), lv_has ls 5 [(0, .ref a0), (1, .int x1_16), (3, .int x3_16), (4, .int x4_16)] → va_P D vwCl [(a0, .inr (3, [.ref a_s, .ref a_past, .ref a_kept, .int zisKept_16, .int zpasts_16, .ref a_text, .int ztyped_16, .ref a_measure, .int zmost1_16, .int zmost3_16, .int zmost5_16, .ref a_chosen, .ref a_ways, .int zspot_16, .int zreason_16, .int zplaces_16, .ref a_owners, .ref a_ranks, .ref a_sets, .ref a_toldAt, .ref a_line])), (a_s, .inl (cI, 37, .inl zs_16))] H → va_D A [(a0, .inr (3, [.ref a_s, .ref a_past, .ref a_kept, .int zisKept_16, .int zpasts_16, .ref a_text, .int ztyped_16, .ref a_measure, .int zmost1_16, .int zmost3_16, .int zmost5_16, .ref a_chosen, .ref a_ways, .int zspot_16, .int zreason_16, .int zplaces_16, .ref a_owners, .ref a_ranks, .ref a_sets, .ref a_toldAt, .ref a_line])), (a_s, .inl (cI, 37, .inl zs_16))] → va_S A s.heap H locs → W p l e (rmm 2 44) s m args below meth c H locs 0 0 Q (F0 m 16 ls []) := by
      intro x1_16 zs_16 zisKept_16 zpasts_16 ztyped_16 zmost1_16 zmost3_16 zmost5_16 zspot_16 zreason_16 zplaces_16 n_16
      induction n_16 with
      | zero => intro x3_16 x4_16 q7 h; exact no_s h
      | succ n_16 ih_16 =>
        intro x3_16 x4_16 q7 h J_16 ls H locs hl hP hD hS
        rw [f_X4_pulled_L16] at h
        refine lv_iload hx hb dX4_pulled_16 (lv_at hl 3 rfl) ?_
        refine lv_bipush (v := 12) hx hb dX4_pulled_18 (by decide) ?_
        refine lv_icmp_ge (tgt := 36) hx hb dX4_pulled_20 (by decide) (fun c4 => ?_) (fun c4 => ?_)
        · have h := itT h c4
          obtain rfl := Option.some.inj h
          exact J_16 _ _ _ (lv_sub hl [2] rfl) hP hD hS
        · have h := itF h c4
          refine lv_aload_n hx hb dX4_pulled_23 rfl (lv_at hl 0 rfl) ?_
          refine lv_iload_n hx hb dX4_pulled_24 rfl (lv_at hl 1 rfl) ?_
          refine lv_iload_n hx hb dX4_pulled_25 rfl (lv_at hl 2 rfl) ?_
          obtain ⟨q5, hq6, h⟩ := bd h
          refine kvI (ws' := [(a0, .inr (3, [.ref a_s, .ref a_past, .ref a_kept, .int zisKept_16, .int zpasts_16, .ref a_text, .int ztyped_16, .ref a_measure, .int zmost1_16, .int zmost3_16, .int zmost5_16, .ref a_chosen, .ref a_ways, .int zspot_16, .int zreason_16, .int zplaces_16, .ref a_owners, .ref a_ranks, .ref a_sets, .ref a_toldAt, .ref a_line])), (a_s, .inl (cI, 37, .inl zs_16))]) (wr := []) (As := [.int x1_16, .int x3_16]) F (c_X4_pulls l D cI cC cH a0 a_s a_past a_kept a_text a_measure a_chosen a_ways a_owners a_ranks a_sets a_toldAt a_line N x1_16 x3_16 zs_16 zisKept_16 zpasts_16 ztyped_16 zmost1_16 zmost3_16 zmost5_16 zspot_16 zreason_16 zplaces_16 q5 hq6) yfX4_pulls ⟨wd3_81, wd3_83, wdp_34⟩ hP hD hS [0, 1] [] [0, 1] rfl rfl (by decide) (by decide) (by decide) rfl (by decide) 0 3 rfl rfl rfl ⟨Nat.le_of_ble_eq_true rfl, Nat.le_of_ble_eq_true rfl, Nat.zero_le _, Nat.zero_le _⟩ rfl hl rfl (Nat.le_of_ble_eq_true rfl) dX4_pulled_26 (fun H locs hP hD hS => ?_)
          refine lv_istore_n (lv' := [(3, .int q5), (0, .ref a0), (1, .int x1_16), (4, .int x4_16)]) hx hb dX4_pulled_29 rfl hl (by decide) rfl (fun ls hl => ?_)
          refine lv_iinc (v := x4_16 + 1) (lv' := [(4, .int (x4_16 + 1)), (3, .int q5), (0, .ref a0), (1, .int x1_16)]) hx hb dX4_pulled_30 hl (k := 3) rfl rfl (by decide) rfl (fun ls hl => ?_)
          refine lv_goto (tgt := 16) hx hb dX4_pulled_33 (by decide) ?_
          exact ih_16 q5 (x4_16 + 1) _ h J_16 _ _ _ (lv_sub hl [2, 3, 1, 0] rfl) hP hD hS
    obtain ⟨q8, hb9, h⟩ := bd h
    refine L_16 x1 zs zisKept zpasts ztyped zmost1 zmost3 zmost5 zspot zreason zplaces N x2 0 q8 hb9 ?_ _ _ _ (lv_sub hl [2, 3, 1, 0] rfl) hP hD hS
    intro ls H locs hl hP hD hS
    refine lv_iload_n hx hb dX4_pulled_36 rfl (lv_at hl 0 rfl) ?_
    obtain rfl := Option.some.inj h
    exact hret _ _ _ _ _ rfl hP hD hS dX4_pulled_37
  · have h := itT h c3
    refine lv_iconst (v := (-1)) hx hb dX4_pulled_9 (by decide) ?_
    obtain rfl := Option.some.inj h
    exact hret _ _ _ _ _ rfl hP hD hS dX4_pulled_10
def f_X4_steps_L25 (N : Nat) (x1_25 : Int32) (x3_25 : Int32) (zs_25 : Nat → Int32) : Nat → Int32 → Int32 → Option ((Int32) ⊕ (Unit))
  | 0, _, _ => none
  | n_25 + 1, x4_25, x5_25 =>
    if 12 < x5_25 then (some (.inr ())) else (if ((x4_25 >>> (x3_25 &&& 31)) &&& 1) = 1 then (some (.inl x5_25)) else (Option.bind (f_X4_pulls N x1_25 x4_25 zs_25) (fun q9 => f_X4_steps_L25 N x1_25 x3_25 zs_25 n_25 q9 (x5_25 + 1))))
def f_X4_steps (N : Nat) (x1 : Int32) (x2 : Int32) (x3 : Int32) (zs : Nat → Int32) : Option (Int32) :=
    Option.bind (f_X4_isSet N x1 x2 zs) (fun q1 => if q1 = 0 then (some (-1)) else (Option.bind (f_X4_isPlace N x3 zs) (fun q4 => if q4 = 0 then (some (-1)) else (Option.bind (f_X4_steps_L25 N x1 x3 zs N x2 0) (fun q13 => sm q13 some (fun t14 => some (-4)))))))
set_option maxHeartbeats 4000000 in
set_option maxRecDepth 100000 in
theorem c_X4_steps (l : Launch) (D : va_G) (cI cC cH : ClassId) (a0 : Nat) (a_s : Nat) (a_past : Nat) (a_kept : Nat) (a_text : Nat) (a_measure : Nat) (a_chosen : Nat) (a_ways : Nat) (a_owners : Nat) (a_ranks : Nat) (a_sets : Nat) (a_toldAt : Nat) (a_line : Nat) (N : Nat) (x1 : Int32) (x2 : Int32) (x3 : Int32) (zs : Nat → Int32) (zisKept : Int32) (zpasts : Int32) (ztyped : Int32) (zmost1 : Int32) (zmost3 : Int32) (zmost5 : Int32) (zspot : Int32) (zreason : Int32) (zplaces : Int32) (y : Int32) (h : f_X4_steps N x1 x2 x3 zs = some y) : CTi l yX4_steps cX4_steps 6 (some .int) 2 44 D (tyL cI cC cH) [.ref a0, .int x1, .int x2, .int x3] [(a0, .inr (3, [.ref a_s, .ref a_past, .ref a_kept, .int zisKept, .int zpasts, .ref a_text, .int ztyped, .ref a_measure, .int zmost1, .int zmost3, .int zmost5, .ref a_chosen, .ref a_ways, .int zspot, .int zreason, .int zplaces, .ref a_owners, .ref a_ranks, .ref a_sets, .ref a_toldAt, .ref a_line])), (a_s, .inl (cI, 37, .inl zs))] [(a0, .inr (3, [.ref a_s, .ref a_past, .ref a_kept, .int zisKept, .int zpasts, .ref a_text, .int ztyped, .ref a_measure, .int zmost1, .int zmost3, .int zmost5, .ref a_chosen, .ref a_ways, .int zspot, .int zreason, .int zplaces, .ref a_owners, .ref a_ranks, .ref a_sets, .ref a_toldAt, .ref a_line])), (a_s, .inl (cI, 37, .inl zs))] y := by
  unfold f_X4_steps at h
  refine ctI (by decide) (Nat.le_of_ble_eq_true rfl) ?_
  intro p e s m args below meth c A Q ls F hret hP hD hS hl
  have hx := F.1
  have hb := F.2.1
  have hown : s.vm.findClass RX4 = some m.cls := F.2.2.2.1
  have hts := F.2.2.2.2.1
  have hN := F.2.2.2.2.2.1
  have hK := F.2.2.2.2.2.2.1
  have hl : lv_has ls 6 [(0, .ref a0), (1, .int x1), (2, .int x2), (3, .int x3)] := hl
  refine lv_aload_n hx hb dX4_steps_0 rfl (lv_at hl 0 rfl) ?_
  refine lv_iload_n hx hb dX4_steps_1 rfl (lv_at hl 1 rfl) ?_
  refine lv_iload_n hx hb dX4_steps_2 rfl (lv_at hl 2 rfl) ?_
  obtain ⟨q1, hq2, h⟩ := bd h
  refine kvI (ws' := [(a0, .inr (3, [.ref a_s, .ref a_past, .ref a_kept, .int zisKept, .int zpasts, .ref a_text, .int ztyped, .ref a_measure, .int zmost1, .int zmost3, .int zmost5, .ref a_chosen, .ref a_ways, .int zspot, .int zreason, .int zplaces, .ref a_owners, .ref a_ranks, .ref a_sets, .ref a_toldAt, .ref a_line])), (a_s, .inl (cI, 37, .inl zs))]) (wr := []) (As := [.int x1, .int x2]) F (c_X4_isSet l D cI cC cH a0 a_s a_past a_kept a_text a_measure a_chosen a_ways a_owners a_ranks a_sets a_toldAt a_line N x1 x2 zs zisKept zpasts ztyped zmost1 zmost3 zmost5 zspot zreason zplaces q1 hq2) yfX4_isSet ⟨wd3_77, wd3_79, wdp_33⟩ hP hD hS [0, 1] [] [0, 1] rfl rfl (by decide) (by decide) (by decide) rfl (by decide) 0 3 rfl rfl rfl ⟨Nat.le_of_ble_eq_true rfl, Nat.le_of_ble_eq_true rfl, Nat.zero_le _, Nat.zero_le _⟩ rfl hl rfl (Nat.le_of_ble_eq_true rfl) dX4_steps_3 (fun H locs hP hD hS => ?_)
  refine lv_if_eq (tgt := 17) hx hb dX4_steps_6 (by decide) (fun c3 => ?_) (fun c3 => ?_)
  · have h := itT h c3
    refine lv_iconst (v := (-1)) hx hb dX4_steps_17 (by decide) ?_
    obtain rfl := Option.some.inj h
    exact hret _ _ _ _ _ rfl hP hD hS dX4_steps_18
  · have h := itF h c3
    refine lv_aload_n hx hb dX4_steps_9 rfl (lv_at hl 0 rfl) ?_
    refine lv_iload_n hx hb dX4_steps_10 rfl (lv_at hl 3 rfl) ?_
    obtain ⟨q4, hq5, h⟩ := bd h
    refine kvI (ws' := [(a0, .inr (3, [.ref a_s, .ref a_past, .ref a_kept, .int zisKept, .int zpasts, .ref a_text, .int ztyped, .ref a_measure, .int zmost1, .int zmost3, .int zmost5, .ref a_chosen, .ref a_ways, .int zspot, .int zreason, .int zplaces, .ref a_owners, .ref a_ranks, .ref a_sets, .ref a_toldAt, .ref a_line])), (a_s, .inl (cI, 37, .inl zs))]) (wr := []) (As := [.int x3]) F (c_X4_isPlace l D cI cC cH a0 a_s a_past a_kept a_text a_measure a_chosen a_ways a_owners a_ranks a_sets a_toldAt a_line N x3 zs zisKept zpasts ztyped zmost1 zmost3 zmost5 zspot zreason zplaces q4 hq5) yfX4_isPlace ⟨wd2_231, wd2_233, wdp_20⟩ hP hD hS [0, 1] [] [0, 1] rfl rfl (by decide) (by decide) (by decide) rfl (by decide) 0 3 rfl rfl rfl ⟨Nat.le_of_ble_eq_true rfl, Nat.le_of_ble_eq_true rfl, Nat.zero_le _, Nat.zero_le _⟩ rfl hl rfl (Nat.le_of_ble_eq_true rfl) dX4_steps_11 (fun H locs hP hD hS => ?_)
    refine lv_if_ne (tgt := 19) hx hb dX4_steps_14 (by decide) (fun c6 => ?_) (fun c6 => ?_)
    · have h := itF h c6
      refine lv_iload_n hx hb dX4_steps_19 rfl (lv_at hl 2 rfl) ?_
      refine lv_istore (lv' := [(4, .int x2), (0, .ref a0), (1, .int x1), (2, .int x2), (3, .int x3)]) hx hb dX4_steps_20 hl (by decide) rfl (fun ls hl => ?_)
      refine lv_iconst (v := 0) hx hb dX4_steps_22 (by decide) ?_
      refine lv_istore (lv' := [(5, .int 0), (4, .int x2), (0, .ref a0), (1, .int x1), (2, .int x2), (3, .int x3)]) hx hb dX4_steps_23 hl (by decide) rfl (fun ls hl => ?_)
      have L_25 : ∀ (n_25 : Nat) (x4_25 : Int32) (x5_25 : Int32) (q11 : ((Int32) ⊕ (Unit))), f_X4_steps_L25 N x1 x3 zs n_25 x4_25 x5_25 = some q11 → (∀ (t12 : Unit), q11 = .inr t12 → ∀ (ls : Array Slot) (H : Heap) (locs : List Loc), lv_has ls 6 [] → va_P D vwCl [(a0, .inr (3, [.ref a_s, .ref a_past, .ref a_kept, .int zisKept, .int zpasts, .ref a_text, .int ztyped, .ref a_measure, .int zmost1, .int zmost3, .int zmost5, .ref a_chosen, .ref a_ways, .int zspot, .int zreason, .int zplaces, .ref a_owners, .ref a_ranks, .ref a_sets, .ref a_toldAt, .ref a_line])), (a_s, .inl (cI, 37, .inl zs))] H → va_D A [(a0, .inr (3, [.ref a_s, .ref a_past, .ref a_kept, .int zisKept, .int zpasts, .ref a_text, .int ztyped, .ref a_measure, .int zmost1, .int zmost3, .int zmost5, .ref a_chosen, .ref a_ways, .int zspot, .int zreason, .int zplaces, .ref a_owners, .ref a_ranks, .ref a_sets, .ref a_toldAt, .ref a_line])), (a_s, .inl (cI, 37, .inl zs))] → va_S A s.heap H locs → W p l e (rmm 2 44) s m args below meth c H locs 0 0 Q (F0 m 60 ls [])) → (∀ r9, q11 = .inl r9 → r9 = y) → ∀ (ls : Array Slot) (H : Heap) (locs : List Loc), lv_has ls 6 [(0, .ref a0), (1, .int x1), (3, .int x3), (4, .int x4_25), (5, .int x5_25)] → va_P D vwCl [(a0, .inr (3, [.ref a_s, .ref a_past, .ref a_kept, .int zisKept, .int zpasts, .ref a_text, .int ztyped, .ref a_measure, .int zmost1, .int zmost3, .int zmost5, .ref a_chosen, .ref a_ways, .int zspot, .int zreason, .int zplaces, .ref a_owners, .ref a_ranks, .ref a_sets, .ref a_toldAt, .ref a_line])), (a_s, .inl (cI, 37, .inl zs))] H → va_D A [(a0, .inr (3, [.ref a_s, .ref a_past, .ref a_kept, .int zisKept, .int zpasts, .ref a_text, .int ztyped, .ref a_measure, .int zmost1, .int zmost3, .int zmost5, .ref a_chosen, .ref a_ways, .int zspot, .int zreason, .int zplaces, .ref a_owners, .ref a_ranks, .ref a_sets, .ref a_toldAt, .ref a_line])), (a_s, .inl (cI, 37, .inl zs))] → va_S A s.heap H locs → W p l e (rmm 2 44) s m args below meth c H locs 0 0 Q (F0 m 25 ls []) := by
        intro  n_25
        induction n_25 with
        | zero => intro x4_25 x5_25 q11 h; exact no_s h
        | succ n_25 ih_25 =>
          intro x4_25 x5_25 q11 h J_25 hr_25 ls H locs hl hP hD hS
          rw [f_X4_steps_L25] at h
          refine lv_iload hx hb dX4_steps_25 (lv_at hl 4 rfl) ?_
          refine lv_bipush (v := 12) hx hb dX4_steps_27 (by decide) ?_
          refine lv_icmp_gt (tgt := 60) hx hb dX4_steps_29 (by decide) (fun c7 => ?_) (fun c7 => ?_)
          · have h := itT h c7
            obtain rfl := Option.some.inj h
            exact J_25 _ rfl _ _ _ (lv_sub hl [] rfl) hP hD hS
          · have h := itF h c7
            refine lv_iload hx hb dX4_steps_32 (lv_at hl 3 rfl) ?_
            refine lv_iload_n hx hb dX4_steps_34 rfl (lv_at hl 2 rfl) ?_
            refine lv_ishr hx hb dX4_steps_35 ?_
            refine lv_iconst (v := 1) hx hb dX4_steps_36 (by decide) ?_
            refine lv_iand hx hb dX4_steps_37 ?_
            refine lv_iconst (v := 1) hx hb dX4_steps_38 (by decide) ?_
            refine lv_icmp_ne (tgt := 45) hx hb dX4_steps_39 (by decide) (fun c8 => ?_) (fun c8 => ?_)
            · have h := itF h c8
              refine lv_aload_n hx hb dX4_steps_45 rfl (lv_at hl 0 rfl) ?_
              refine lv_iload_n hx hb dX4_steps_46 rfl (lv_at hl 1 rfl) ?_
              refine lv_iload hx hb dX4_steps_47 (lv_at hl 3 rfl) ?_
              obtain ⟨q9, hq10, h⟩ := bd h
              refine kvI (ws' := [(a0, .inr (3, [.ref a_s, .ref a_past, .ref a_kept, .int zisKept, .int zpasts, .ref a_text, .int ztyped, .ref a_measure, .int zmost1, .int zmost3, .int zmost5, .ref a_chosen, .ref a_ways, .int zspot, .int zreason, .int zplaces, .ref a_owners, .ref a_ranks, .ref a_sets, .ref a_toldAt, .ref a_line])), (a_s, .inl (cI, 37, .inl zs))]) (wr := []) (As := [.int x1, .int x4_25]) F (c_X4_pulls l D cI cC cH a0 a_s a_past a_kept a_text a_measure a_chosen a_ways a_owners a_ranks a_sets a_toldAt a_line N x1 x4_25 zs zisKept zpasts ztyped zmost1 zmost3 zmost5 zspot zreason zplaces q9 hq10) yfX4_pulls ⟨wd3_81, wd3_83, wdp_34⟩ hP hD hS [0, 1] [] [0, 1] rfl rfl (by decide) (by decide) (by decide) rfl (by decide) 0 3 rfl rfl rfl ⟨Nat.le_of_ble_eq_true rfl, Nat.le_of_ble_eq_true rfl, Nat.zero_le _, Nat.zero_le _⟩ rfl hl rfl (Nat.le_of_ble_eq_true rfl) dX4_steps_49 (fun H locs hP hD hS => ?_)
              refine lv_istore (lv' := [(4, .int q9), (0, .ref a0), (1, .int x1), (3, .int x3), (5, .int x5_25)]) hx hb dX4_steps_52 hl (by decide) rfl (fun ls hl => ?_)
              refine lv_iinc (v := x5_25 + 1) (lv' := [(5, .int (x5_25 + 1)), (4, .int q9), (0, .ref a0), (1, .int x1), (3, .int x3)]) hx hb dX4_steps_54 hl (k := 4) rfl rfl (by decide) rfl (fun ls hl => ?_)
              refine lv_goto (tgt := 25) hx hb dX4_steps_57 (by decide) ?_
              exact ih_25 q9 (x5_25 + 1) _ h J_25 hr_25 _ _ _ (lv_sub hl [2, 3, 4, 1, 0] rfl) hP hD hS
            · have h := itT h c8
              refine lv_iload hx hb dX4_steps_42 (lv_at hl 4 rfl) ?_
              obtain rfl := Option.some.inj h
              obtain rfl := hr_25 _ rfl
              exact hret _ _ _ _ _ rfl hP hD hS dX4_steps_44
      obtain ⟨q13, hb15, h⟩ := bd h
      have hr16 : ∀ r9, q13 = .inl r9 → r9 = y := by
        intro r9 e9
        rw [e9] at h
        exact Option.some.inj h
      refine L_25 N x2 0 q13 hb15 ?_ hr16 _ _ _ (lv_sub hl [2, 3, 5, 1, 0] rfl) hP hD hS
      intro t14 e9 ls H locs hl hP hD hS
      rw [e9] at h
      have h := sm_r h
      refine lv_bipush (v := (-4)) hx hb dX4_steps_60 (by decide) ?_
      obtain rfl := Option.some.inj h
      exact hret _ _ _ _ _ rfl hP hD hS dX4_steps_62
    · have h := itT h c6
      refine lv_iconst (v := (-1)) hx hb dX4_steps_17 (by decide) ?_
      obtain rfl := Option.some.inj h
      exact hret _ _ _ _ _ rfl hP hD hS dX4_steps_18
def f_X4_holding_L5 (N : Nat) (x1_5 : Int32) (x2_5 : Int32) (zs_5 : Nat → Int32) : Nat → Int32 → Int32 → Option (Int32)
  | 0, _, _ => none
  | n_5 + 1, x3_5, x4_5 =>
    chk (gi 0 37) (if (zs_5 (Int32.toNatClampNeg 0)) ≤ x4_5 then (some x3_5) else (chk (gi (25 + x4_5) 37) (chk (gi (1 + x4_5) 37) (Option.bind (α := Int32) (if (zs_5 (Int32.toNatClampNeg (1 + x4_5))) = x1_5 then (if ((zs_5 (Int32.toNatClampNeg (25 + x4_5))) &&& (x2_5 ^^^ (-1))) = 0 then (some (1)) else (some (0))) else (if (zs_5 (Int32.toNatClampNeg (25 + x4_5))) = 0 then (some (1)) else (if ((zs_5 (Int32.toNatClampNeg (25 + x4_5))) &&& x2_5) = 0 then (some (0)) else (some (1))))) (fun q6 => Option.bind (α := Int32) (if ((x2_5 >>> (x4_5 &&& 31)) &&& 1) = 1 then (if q6 = 0 then (some (0)) else (some ((1 : Int32) <<< (x4_5 &&& 31)))) else (some (0))) (fun q13 => f_X4_holding_L5 N x1_5 x2_5 zs_5 n_5 (x3_5 ||| q13) (x4_5 + 1)))))))
def f_X4_holding (N : Nat) (x1 : Int32) (x2 : Int32) (zs : Nat → Int32) : Option (Int32) :=
    Option.bind (f_X4_holding_L5 N x1 x2 zs N 0 0) (fun q20 => some q20)
set_option maxHeartbeats 4000000 in
set_option maxRecDepth 100000 in
theorem c_X4_holding (l : Launch) (D : va_G) (cI cC cH : ClassId) (a0 : Nat) (a_s : Nat) (a_past : Nat) (a_kept : Nat) (a_text : Nat) (a_measure : Nat) (a_chosen : Nat) (a_ways : Nat) (a_owners : Nat) (a_ranks : Nat) (a_sets : Nat) (a_toldAt : Nat) (a_line : Nat) (N : Nat) (x1 : Int32) (x2 : Int32) (zs : Nat → Int32) (zisKept : Int32) (zpasts : Int32) (ztyped : Int32) (zmost1 : Int32) (zmost3 : Int32) (zmost5 : Int32) (zspot : Int32) (zreason : Int32) (zplaces : Int32) (y : Int32) (h : f_X4_holding N x1 x2 zs = some y) : CTi l yX4_holding cX4_holding 7 (some .int) 0 0 D (tyL cI cC cH) [.ref a0, .int x1, .int x2] [(a0, .inr (3, [.ref a_s, .ref a_past, .ref a_kept, .int zisKept, .int zpasts, .ref a_text, .int ztyped, .ref a_measure, .int zmost1, .int zmost3, .int zmost5, .ref a_chosen, .ref a_ways, .int zspot, .int zreason, .int zplaces, .ref a_owners, .ref a_ranks, .ref a_sets, .ref a_toldAt, .ref a_line])), (a_s, .inl (cI, 37, .inl zs))] [(a0, .inr (3, [.ref a_s, .ref a_past, .ref a_kept, .int zisKept, .int zpasts, .ref a_text, .int ztyped, .ref a_measure, .int zmost1, .int zmost3, .int zmost5, .ref a_chosen, .ref a_ways, .int zspot, .int zreason, .int zplaces, .ref a_owners, .ref a_ranks, .ref a_sets, .ref a_toldAt, .ref a_line])), (a_s, .inl (cI, 37, .inl zs))] y := by
  unfold f_X4_holding at h
  refine ctI (by decide) (Nat.le_of_ble_eq_true rfl) ?_
  intro p e s m args below meth c A Q ls F hret hP hD hS hl
  have hx := F.1
  have hb := F.2.1
  have hown : s.vm.findClass RX4 = some m.cls := F.2.2.2.1
  have hts := F.2.2.2.2.1
  have hN := F.2.2.2.2.2.1
  have hK := F.2.2.2.2.2.2.1
  have hl : lv_has ls 7 [(0, .ref a0), (1, .int x1), (2, .int x2)] := hl
  refine lv_iconst (v := 0) hx hb dX4_holding_0 (by decide) ?_
  refine lv_istore_n (lv' := [(3, .int 0), (0, .ref a0), (1, .int x1), (2, .int x2)]) hx hb dX4_holding_1 rfl hl (by decide) rfl (fun ls hl => ?_)
  refine lv_iconst (v := 0) hx hb dX4_holding_2 (by decide) ?_
  refine lv_istore (lv' := [(4, .int 0), (3, .int 0), (0, .ref a0), (1, .int x1), (2, .int x2)]) hx hb dX4_holding_3 hl (by decide) rfl (fun ls hl => ?_)
  have L_5 : ∀ (x1_5 : Int32) (x2_5 : Int32) (zs_5 : Nat → Int32) (zisKept_5 : Int32) (zpasts_5 : Int32) (ztyped_5 : Int32) (zmost1_5 : Int32) (zmost3_5 : Int32) (zmost5_5 : Int32) (zspot_5 : Int32) (zreason_5 : Int32) (zplaces_5 : Int32), ∀ (n_5 : Nat) (x3_5 : Int32) (x4_5 : Int32) (q19 : (Int32)), f_X4_holding_L5 N x1_5 x2_5 zs_5 n_5 x3_5 x4_5 = some q19 → (∀ (ls : Array Slot) (H : Heap) (locs : List Loc), lv_has ls 7 [(3, .int q19)] → va_P D vwCl [(a0, .inr (3, [.ref a_s, .ref a_past, .ref a_kept, .int zisKept_5, .int zpasts_5, .ref a_text, .int ztyped_5, .ref a_measure, .int zmost1_5, .int zmost3_5, .int zmost5_5, .ref a_chosen, .ref a_ways, .int zspot_5, .int zreason_5, .int zplaces_5, .ref a_owners, .ref a_ranks, .ref a_sets, .ref a_toldAt, .ref a_line])), (a_s, .inl (cI, 37, .inl zs_5))] H → va_D A [(a0, .inr (3, [.ref a_s, .ref a_past, .ref a_kept, .int zisKept_5, .int zpasts_5, .ref a_text, .int ztyped_5, .ref a_measure, .int zmost1_5, .int zmost3_5, .int zmost5_5, .ref a_chosen, .ref a_ways, .int zspot_5, .int zreason_5, .int zplaces_5, .ref a_owners, .ref a_ranks, .ref a_sets, .ref a_toldAt, .ref a_line])), (a_s, .inl (cI, 37, .inl zs_5))] → va_S A s.heap H locs → W p l e (rmm 0 0) s m args below meth c H locs 0 0 Q (F0 m 109 ls [])) → ∀ (ls : Array Slot) (H : Heap) (locs : List Loc), lv_has ls 7 [(0, .ref a0), (1, .int x1_5), (2, .int x2_5), (3, .int x3_5), (4, .int x4_5)] → va_P D vwCl [(a0, .inr (3, [.ref a_s, .ref a_past, .ref a_kept, .int zisKept_5, .int zpasts_5, .ref a_text, .int ztyped_5, .ref a_measure, .int zmost1_5, .int zmost3_5, .int zmost5_5, .ref a_chosen, .ref a_ways, .int zspot_5, .int zreason_5, .int zplaces_5, .ref a_owners, .ref a_ranks, .ref a_sets, .ref a_toldAt, .ref a_line])), (a_s, .inl (cI, 37, .inl zs_5))] H → va_D A [(a0, .inr (3, [.ref a_s, .ref a_past, .ref a_kept, .int zisKept_5, .int zpasts_5, .ref a_text, .int ztyped_5, .ref a_measure, .int zmost1_5, .int zmost3_5, .int zmost5_5, .ref a_chosen, .ref a_ways, .int zspot_5, .int zreason_5, .int zplaces_5, .ref a_owners, .ref a_ranks, .ref a_sets, .ref a_toldAt, .ref a_line])), (a_s, .inl (cI, 37, .inl zs_5))] → va_S A s.heap H locs → W p l e (rmm 0 0) s m args below meth c H locs 0 0 Q (F0 m 5 ls []) := by
    intro x1_5 x2_5 zs_5 zisKept_5 zpasts_5 ztyped_5 zmost1_5 zmost3_5 zmost5_5 zspot_5 zreason_5 zplaces_5 n_5
    induction n_5 with
    | zero => intro x3_5 x4_5 q19 h; exact no_s h
    | succ n_5 ih_5 =>
      intro x3_5 x4_5 q19 h J_5 ls H locs hl hP hD hS
      rw [f_X4_holding_L5] at h
      refine lv_iload hx hb dX4_holding_5 (lv_at hl 4 rfl) ?_
      refine lv_aload_n hx hb dX4_holding_7 rfl (lv_at hl 0 rfl) ?_
      refine va_get (D := D) (ci := 3) (v := .ref a_s) (C := RX4) (T := TX4) (N := 21) hx hb hts inG4 hown hK hP 0 rfl rfl 0 (by decide) (hts _ wd2_152) (fun _ h9 => h9) rfl dX4_holding_8 ?_
      refine lv_iconst (v := 0) hx hb dX4_holding_11 (by decide) ?_
      obtain ⟨g1, h⟩ := chk_s h
      refine va_iald hx hb hK hP 1 0 rfl rfl (gi_in g1) dX4_holding_12 ?_
      refine lv_icmp_ge (tgt := 109) hx hb dX4_holding_13 (by decide) (fun c2 => ?_) (fun c2 => ?_)
      · have h := itT h c2
        obtain rfl := Option.some.inj h
        exact J_5 _ _ _ (lv_sub hl [3] rfl) hP hD hS
      · have h := itF h c2
        refine lv_aload_n hx hb dX4_holding_16 rfl (lv_at hl 0 rfl) ?_
        refine va_get (D := D) (ci := 3) (v := .ref a_s) (C := RX4) (T := TX4) (N := 21) hx hb hts inG4 hown hK hP 0 rfl rfl 0 (by decide) (hts _ wd2_152) (fun _ h9 => h9) rfl dX4_holding_17 ?_
        refine lv_bipush (v := 25) hx hb dX4_holding_20 (by decide) ?_
        refine lv_iload hx hb dX4_holding_22 (lv_at hl 4 rfl) ?_
        refine lv_iadd hx hb dX4_holding_24 ?_
        obtain ⟨g3, h⟩ := chk_s h
        refine va_iald hx hb hK hP 1 0 rfl rfl (gi_in g3) dX4_holding_25 ?_
        refine lv_istore (lv' := [(5, .int (zs_5 (Int32.toNatClampNeg (25 + x4_5)))), (0, .ref a0), (1, .int x1_5), (2, .int x2_5), (3, .int x3_5), (4, .int x4_5)]) hx hb dX4_holding_26 hl (by decide) rfl (fun ls hl => ?_)
        refine lv_aload_n hx hb dX4_holding_28 rfl (lv_at hl 1 rfl) ?_
        refine va_get (D := D) (ci := 3) (v := .ref a_s) (C := RX4) (T := TX4) (N := 21) hx hb hts inG4 hown hK hP 0 rfl rfl 0 (by decide) (hts _ wd2_152) (fun _ h9 => h9) rfl dX4_holding_29 ?_
        refine lv_iconst (v := 1) hx hb dX4_holding_32 (by decide) ?_
        refine lv_iload hx hb dX4_holding_33 (lv_at hl 5 rfl) ?_
        refine lv_iadd hx hb dX4_holding_35 ?_
        obtain ⟨g4, h⟩ := chk_s h
        refine va_iald hx hb hK hP 1 0 rfl rfl (gi_in g4) dX4_holding_36 ?_
        refine lv_iload_n hx hb dX4_holding_37 rfl (lv_at hl 2 rfl) ?_
        obtain ⟨q6, hb18, h⟩ := bd h
        have J7 : ∀ (ls : Array Slot) (H : Heap) (locs : List Loc), lv_has ls 7 [(0, .ref a0), (1, .int x1_5), (2, .int x2_5), (3, .int x3_5), (4, .int x4_5)] → va_P D vwCl [(a0, .inr (3, [.ref a_s, .ref a_past, .ref a_kept, .int zisKept_5, .int zpasts_5, .ref a_text, .int ztyped_5, .ref a_measure, .int zmost1_5, .int zmost3_5, .int zmost5_5, .ref a_chosen, .ref a_ways, .int zspot_5, .int zreason_5, .int zplaces_5, .ref a_owners, .ref a_ranks, .ref a_sets, .ref a_toldAt, .ref a_line])), (a_s, .inl (cI, 37, .inl zs_5))] H → va_D A [(a0, .inr (3, [.ref a_s, .ref a_past, .ref a_kept, .int zisKept_5, .int zpasts_5, .ref a_text, .int ztyped_5, .ref a_measure, .int zmost1_5, .int zmost3_5, .int zmost5_5, .ref a_chosen, .ref a_ways, .int zspot_5, .int zreason_5, .int zplaces_5, .ref a_owners, .ref a_ranks, .ref a_sets, .ref a_toldAt, .ref a_line])), (a_s, .inl (cI, 37, .inl zs_5))] → va_S A s.heap H locs → W p l e (rmm 0 0) s m args below meth c H locs 0 0 Q (F0 m 75 ls [.int q6]) := by
          intro ls H locs hl hP hD hS
          refine lv_istore (lv' := [(6, .int q6), (0, .ref a0), (1, .int x1_5), (2, .int x2_5), (3, .int x3_5), (4, .int x4_5)]) hx hb dX4_holding_75 hl (by decide) rfl (fun ls hl => ?_)
          refine lv_iload_n hx hb dX4_holding_77 rfl (lv_at hl 4 rfl) ?_
          refine lv_iload_n hx hb dX4_holding_78 rfl (lv_at hl 3 rfl) ?_
          refine lv_iload hx hb dX4_holding_79 (lv_at hl 5 rfl) ?_
          refine lv_ishr hx hb dX4_holding_81 ?_
          refine lv_iconst (v := 1) hx hb dX4_holding_82 (by decide) ?_
          refine lv_iand hx hb dX4_holding_83 ?_
          refine lv_iconst (v := 1) hx hb dX4_holding_84 (by decide) ?_
          obtain ⟨q13, hb17, h⟩ := bd h
          have J14 : ∀ (ls : Array Slot) (H : Heap) (locs : List Loc), lv_has ls 7 [(0, .ref a0), (1, .int x1_5), (2, .int x2_5), (4, .int x4_5)] → va_P D vwCl [(a0, .inr (3, [.ref a_s, .ref a_past, .ref a_kept, .int zisKept_5, .int zpasts_5, .ref a_text, .int ztyped_5, .ref a_measure, .int zmost1_5, .int zmost3_5, .int zmost5_5, .ref a_chosen, .ref a_ways, .int zspot_5, .int zreason_5, .int zplaces_5, .ref a_owners, .ref a_ranks, .ref a_sets, .ref a_toldAt, .ref a_line])), (a_s, .inl (cI, 37, .inl zs_5))] H → va_D A [(a0, .inr (3, [.ref a_s, .ref a_past, .ref a_kept, .int zisKept_5, .int zpasts_5, .ref a_text, .int ztyped_5, .ref a_measure, .int zmost1_5, .int zmost3_5, .int zmost5_5, .ref a_chosen, .ref a_ways, .int zspot_5, .int zreason_5, .int zplaces_5, .ref a_owners, .ref a_ranks, .ref a_sets, .ref a_toldAt, .ref a_line])), (a_s, .inl (cI, 37, .inl zs_5))] → va_S A s.heap H locs → W p l e (rmm 0 0) s m args below meth c H locs 0 0 Q (F0 m 101 ls [.int q13, .int x3_5]) := by
            intro ls H locs hl hP hD hS
            refine lv_ior hx hb dX4_holding_101 ?_
            refine lv_istore_n (lv' := [(3, .int (x3_5 ||| q13)), (0, .ref a0), (1, .int x1_5), (2, .int x2_5), (4, .int x4_5)]) hx hb dX4_holding_102 rfl hl (by decide) rfl (fun ls hl => ?_)
            refine lv_iinc (v := x4_5 + 1) (lv' := [(4, .int (x4_5 + 1)), (3, .int (x3_5 ||| q13)), (0, .ref a0), (1, .int x1_5), (2, .int x2_5)]) hx hb dX4_holding_103 hl (k := 4) rfl rfl (by decide) rfl (fun ls hl => ?_)
            refine lv_goto (tgt := 5) hx hb dX4_holding_106 (by decide) ?_
            exact ih_5 (x3_5 ||| q13) (x4_5 + 1) _ h J_5 _ _ _ (lv_sub hl [2, 3, 4, 1, 0] rfl) hP hD hS
          clear h
          have h := hb17
          clear hb17
          refine lv_icmp_ne (tgt := 100) hx hb dX4_holding_85 (by decide) (fun c12 => ?_) (fun c12 => ?_)
          · have h := itF h c12
            refine lv_iconst (v := 0) hx hb dX4_holding_100 (by decide) ?_
            obtain rfl := Option.some.inj h
            exact J14 _ _ _ (lv_sub hl [1, 2, 3, 5] rfl) hP hD hS
          · have h := itT h c12
            refine lv_iload hx hb dX4_holding_88 (lv_at hl 0 rfl) ?_
            refine lv_if_eq (tgt := 100) hx hb dX4_holding_90 (by decide) (fun c16 => ?_) (fun c16 => ?_)
            · have h := itT h c16
              refine lv_iconst (v := 0) hx hb dX4_holding_100 (by decide) ?_
              obtain rfl := Option.some.inj h
              exact J14 _ _ _ (lv_sub hl [1, 2, 3, 5] rfl) hP hD hS
            · have h := itF h c16
              refine lv_iconst (v := 1) hx hb dX4_holding_93 (by decide) ?_
              refine lv_iload hx hb dX4_holding_94 (lv_at hl 5 rfl) ?_
              refine lv_ishl hx hb dX4_holding_96 ?_
              refine lv_goto (tgt := 101) hx hb dX4_holding_97 (by decide) ?_
              obtain rfl := Option.some.inj h
              exact J14 _ _ _ (lv_sub hl [1, 2, 3, 5] rfl) hP hD hS
        clear h
        have h := hb18
        clear hb18
        refine lv_icmp_ne (tgt := 58) hx hb dX4_holding_38 (by decide) (fun c5 => ?_) (fun c5 => ?_)
        · have h := itF h c5
          refine lv_iload hx hb dX4_holding_58 (lv_at hl 0 rfl) ?_
          refine lv_if_eq (tgt := 70) hx hb dX4_holding_60 (by decide) (fun c9 => ?_) (fun c9 => ?_)
          · have h := itT h c9
            refine lv_iconst (v := 1) hx hb dX4_holding_70 (by decide) ?_
            refine lv_goto (tgt := 75) hx hb dX4_holding_71 (by decide) ?_
            obtain rfl := Option.some.inj h
            exact J7 _ _ _ (lv_sub hl [1, 2, 3, 4, 5] rfl) hP hD hS
          · have h := itF h c9
            refine lv_iload hx hb dX4_holding_63 (lv_at hl 0 rfl) ?_
            refine lv_iload_n hx hb dX4_holding_65 rfl (lv_at hl 3 rfl) ?_
            refine lv_iand hx hb dX4_holding_66 ?_
            refine lv_if_eq (tgt := 74) hx hb dX4_holding_67 (by decide) (fun c10 => ?_) (fun c10 => ?_)
            · have h := itT h c10
              refine lv_iconst (v := 0) hx hb dX4_holding_74 (by decide) ?_
              obtain rfl := Option.some.inj h
              exact J7 _ _ _ (lv_sub hl [1, 2, 3, 4, 5] rfl) hP hD hS
            · have h := itF h c10
              refine lv_iconst (v := 1) hx hb dX4_holding_70 (by decide) ?_
              refine lv_goto (tgt := 75) hx hb dX4_holding_71 (by decide) ?_
              obtain rfl := Option.some.inj h
              exact J7 _ _ _ (lv_sub hl [1, 2, 3, 4, 5] rfl) hP hD hS
        · have h := itT h c5
          refine lv_iload hx hb dX4_holding_41 (lv_at hl 0 rfl) ?_
          refine lv_iload_n hx hb dX4_holding_43 rfl (lv_at hl 3 rfl) ?_
          refine lv_iconst (v := (-1)) hx hb dX4_holding_44 (by decide) ?_
          refine lv_ixor hx hb dX4_holding_45 ?_
          refine lv_iand hx hb dX4_holding_46 ?_
          refine lv_if_ne (tgt := 54) hx hb dX4_holding_47 (by decide) (fun c11 => ?_) (fun c11 => ?_)
          · have h := itF h c11
            refine lv_iconst (v := 0) hx hb dX4_holding_54 (by decide) ?_
            refine lv_goto (tgt := 75) hx hb dX4_holding_55 (by decide) ?_
            obtain rfl := Option.some.inj h
            exact J7 _ _ _ (lv_sub hl [1, 2, 3, 4, 5] rfl) hP hD hS
          · have h := itT h c11
            refine lv_iconst (v := 1) hx hb dX4_holding_50 (by decide) ?_
            refine lv_goto (tgt := 75) hx hb dX4_holding_51 (by decide) ?_
            obtain rfl := Option.some.inj h
            exact J7 _ _ _ (lv_sub hl [1, 2, 3, 4, 5] rfl) hP hD hS
  obtain ⟨q20, hb21, h⟩ := bd h
  refine L_5 x1 x2 zs zisKept zpasts ztyped zmost1 zmost3 zmost5 zspot zreason zplaces N 0 0 q20 hb21 ?_ _ _ _ (lv_sub hl [2, 3, 4, 1, 0] rfl) hP hD hS
  intro ls H locs hl hP hD hS
  refine lv_iload_n hx hb dX4_holding_109 rfl (lv_at hl 0 rfl) ?_
  obtain rfl := Option.some.inj h
  exact hret _ _ _ _ _ rfl hP hD hS dX4_holding_110
def f_X4_trap (N : Nat) (x1 : Int32) (x2 : Int32) (zs : Nat → Int32) : Option (Int32) :=
    Option.bind (f_X4_isSet N x1 x2 zs) (fun q1 => if q1 = 0 then (some (-1)) else (Option.bind (f_X4_holding N x1 x2 zs) (fun q4 => if q4 = x2 then (some 1) else (some 0))))
set_option maxHeartbeats 4000000 in
set_option maxRecDepth 100000 in
theorem c_X4_trap (l : Launch) (D : va_G) (cI cC cH : ClassId) (a0 : Nat) (a_s : Nat) (a_past : Nat) (a_kept : Nat) (a_text : Nat) (a_measure : Nat) (a_chosen : Nat) (a_ways : Nat) (a_owners : Nat) (a_ranks : Nat) (a_sets : Nat) (a_toldAt : Nat) (a_line : Nat) (N : Nat) (x1 : Int32) (x2 : Int32) (zs : Nat → Int32) (zisKept : Int32) (zpasts : Int32) (ztyped : Int32) (zmost1 : Int32) (zmost3 : Int32) (zmost5 : Int32) (zspot : Int32) (zreason : Int32) (zplaces : Int32) (y : Int32) (h : f_X4_trap N x1 x2 zs = some y) : CTi l yX4_trap cX4_trap 3 (some .int) 2 44 D (tyL cI cC cH) [.ref a0, .int x1, .int x2] [(a0, .inr (3, [.ref a_s, .ref a_past, .ref a_kept, .int zisKept, .int zpasts, .ref a_text, .int ztyped, .ref a_measure, .int zmost1, .int zmost3, .int zmost5, .ref a_chosen, .ref a_ways, .int zspot, .int zreason, .int zplaces, .ref a_owners, .ref a_ranks, .ref a_sets, .ref a_toldAt, .ref a_line])), (a_s, .inl (cI, 37, .inl zs))] [(a0, .inr (3, [.ref a_s, .ref a_past, .ref a_kept, .int zisKept, .int zpasts, .ref a_text, .int ztyped, .ref a_measure, .int zmost1, .int zmost3, .int zmost5, .ref a_chosen, .ref a_ways, .int zspot, .int zreason, .int zplaces, .ref a_owners, .ref a_ranks, .ref a_sets, .ref a_toldAt, .ref a_line])), (a_s, .inl (cI, 37, .inl zs))] y := by
  unfold f_X4_trap at h
  refine ctI (by decide) (Nat.le_of_ble_eq_true rfl) ?_
  intro p e s m args below meth c A Q ls F hret hP hD hS hl
  have hx := F.1
  have hb := F.2.1
  have hown : s.vm.findClass RX4 = some m.cls := F.2.2.2.1
  have hts := F.2.2.2.2.1
  have hN := F.2.2.2.2.2.1
  have hK := F.2.2.2.2.2.2.1
  have hl : lv_has ls 3 [(0, .ref a0), (1, .int x1), (2, .int x2)] := hl
  refine lv_aload_n hx hb dX4_trap_0 rfl (lv_at hl 0 rfl) ?_
  refine lv_iload_n hx hb dX4_trap_1 rfl (lv_at hl 1 rfl) ?_
  refine lv_iload_n hx hb dX4_trap_2 rfl (lv_at hl 2 rfl) ?_
  obtain ⟨q1, hq2, h⟩ := bd h
  refine kvI (ws' := [(a0, .inr (3, [.ref a_s, .ref a_past, .ref a_kept, .int zisKept, .int zpasts, .ref a_text, .int ztyped, .ref a_measure, .int zmost1, .int zmost3, .int zmost5, .ref a_chosen, .ref a_ways, .int zspot, .int zreason, .int zplaces, .ref a_owners, .ref a_ranks, .ref a_sets, .ref a_toldAt, .ref a_line])), (a_s, .inl (cI, 37, .inl zs))]) (wr := []) (As := [.int x1, .int x2]) F (c_X4_isSet l D cI cC cH a0 a_s a_past a_kept a_text a_measure a_chosen a_ways a_owners a_ranks a_sets a_toldAt a_line N x1 x2 zs zisKept zpasts ztyped zmost1 zmost3 zmost5 zspot zreason zplaces q1 hq2) yfX4_isSet ⟨wd3_77, wd3_79, wdp_33⟩ hP hD hS [0, 1] [] [0, 1] rfl rfl (by decide) (by decide) (by decide) rfl (by decide) 0 3 rfl rfl rfl ⟨Nat.le_of_ble_eq_true rfl, Nat.le_of_ble_eq_true rfl, Nat.zero_le _, Nat.zero_le _⟩ rfl hl rfl (Nat.le_of_ble_eq_true rfl) dX4_trap_3 (fun H locs hP hD hS => ?_)
  refine lv_if_ne (tgt := 11) hx hb dX4_trap_6 (by decide) (fun c3 => ?_) (fun c3 => ?_)
  · have h := itF h c3
    refine lv_aload_n hx hb dX4_trap_11 rfl (lv_at hl 0 rfl) ?_
    refine lv_iload_n hx hb dX4_trap_12 rfl (lv_at hl 1 rfl) ?_
    refine lv_iload_n hx hb dX4_trap_13 rfl (lv_at hl 2 rfl) ?_
    obtain ⟨q4, hq5, h⟩ := bd h
    refine kvI (ws' := [(a0, .inr (3, [.ref a_s, .ref a_past, .ref a_kept, .int zisKept, .int zpasts, .ref a_text, .int ztyped, .ref a_measure, .int zmost1, .int zmost3, .int zmost5, .ref a_chosen, .ref a_ways, .int zspot, .int zreason, .int zplaces, .ref a_owners, .ref a_ranks, .ref a_sets, .ref a_toldAt, .ref a_line])), (a_s, .inl (cI, 37, .inl zs))]) (wr := []) (As := [.int x1, .int x2]) F (c_X4_holding l D cI cC cH a0 a_s a_past a_kept a_text a_measure a_chosen a_ways a_owners a_ranks a_sets a_toldAt a_line N x1 x2 zs zisKept zpasts ztyped zmost1 zmost3 zmost5 zspot zreason zplaces q4 hq5) yfX4_holding ⟨wd3_93, wd3_95, wdp_35⟩ hP hD hS [0, 1] [] [0, 1] rfl rfl (by decide) (by decide) (by decide) rfl (by decide) 0 3 rfl rfl rfl ⟨Nat.le_of_ble_eq_true rfl, Nat.le_of_ble_eq_true rfl, Nat.zero_le _, Nat.zero_le _⟩ rfl hl rfl (Nat.le_of_ble_eq_true rfl) dX4_trap_14 (fun H locs hP hD hS => ?_)
    refine lv_iload_n hx hb dX4_trap_17 rfl (lv_at hl 2 rfl) ?_
    refine lv_icmp_ne (tgt := 25) hx hb dX4_trap_18 (by decide) (fun c6 => ?_) (fun c6 => ?_)
    · have h := itF h c6
      refine lv_iconst (v := 0) hx hb dX4_trap_25 (by decide) ?_
      obtain rfl := Option.some.inj h
      exact hret _ _ _ _ _ rfl hP hD hS dX4_trap_26
    · have h := itT h c6
      refine lv_iconst (v := 1) hx hb dX4_trap_21 (by decide) ?_
      refine lv_goto (tgt := 26) hx hb dX4_trap_22 (by decide) ?_
      obtain rfl := Option.some.inj h
      exact hret _ _ _ _ _ rfl hP hD hS dX4_trap_26
  · have h := itT h c3
    refine lv_iconst (v := (-1)) hx hb dX4_trap_9 (by decide) ?_
    obtain rfl := Option.some.inj h
    exact hret _ _ _ _ _ rfl hP hD hS dX4_trap_10
def f_X4_greatestTrap_L16 (N : Nat) (x1_16 : Int32) (zs_16 : Nat → Int32) : Nat → Int32 → Int32 → Option (Int32)
  | 0, _, _ => none
  | n_16 + 1, x3_16, x4_16 =>
    if 12 ≤ x4_16 then (some x3_16) else (Option.bind (f_X4_holding N x1_16 x3_16 zs_16) (fun q5 => f_X4_greatestTrap_L16 N x1_16 zs_16 n_16 q5 (x4_16 + 1)))
def f_X4_greatestTrap (N : Nat) (x1 : Int32) (x2 : Int32) (zs : Nat → Int32) : Option (Int32) :=
    Option.bind (f_X4_isSet N x1 x2 zs) (fun q1 => if q1 = 0 then (some (-1)) else (Option.bind (f_X4_greatestTrap_L16 N x1 zs N x2 0) (fun q8 => some q8)))
set_option maxHeartbeats 4000000 in
set_option maxRecDepth 100000 in
theorem c_X4_greatestTrap (l : Launch) (D : va_G) (cI cC cH : ClassId) (a0 : Nat) (a_s : Nat) (a_past : Nat) (a_kept : Nat) (a_text : Nat) (a_measure : Nat) (a_chosen : Nat) (a_ways : Nat) (a_owners : Nat) (a_ranks : Nat) (a_sets : Nat) (a_toldAt : Nat) (a_line : Nat) (N : Nat) (x1 : Int32) (x2 : Int32) (zs : Nat → Int32) (zisKept : Int32) (zpasts : Int32) (ztyped : Int32) (zmost1 : Int32) (zmost3 : Int32) (zmost5 : Int32) (zspot : Int32) (zreason : Int32) (zplaces : Int32) (y : Int32) (h : f_X4_greatestTrap N x1 x2 zs = some y) : CTi l yX4_greatestTrap cX4_greatestTrap 5 (some .int) 2 44 D (tyL cI cC cH) [.ref a0, .int x1, .int x2] [(a0, .inr (3, [.ref a_s, .ref a_past, .ref a_kept, .int zisKept, .int zpasts, .ref a_text, .int ztyped, .ref a_measure, .int zmost1, .int zmost3, .int zmost5, .ref a_chosen, .ref a_ways, .int zspot, .int zreason, .int zplaces, .ref a_owners, .ref a_ranks, .ref a_sets, .ref a_toldAt, .ref a_line])), (a_s, .inl (cI, 37, .inl zs))] [(a0, .inr (3, [.ref a_s, .ref a_past, .ref a_kept, .int zisKept, .int zpasts, .ref a_text, .int ztyped, .ref a_measure, .int zmost1, .int zmost3, .int zmost5, .ref a_chosen, .ref a_ways, .int zspot, .int zreason, .int zplaces, .ref a_owners, .ref a_ranks, .ref a_sets, .ref a_toldAt, .ref a_line])), (a_s, .inl (cI, 37, .inl zs))] y := by
  unfold f_X4_greatestTrap at h
  refine ctI (by decide) (Nat.le_of_ble_eq_true rfl) ?_
  intro p e s m args below meth c A Q ls F hret hP hD hS hl
  have hx := F.1
  have hb := F.2.1
  have hown : s.vm.findClass RX4 = some m.cls := F.2.2.2.1
  have hts := F.2.2.2.2.1
  have hN := F.2.2.2.2.2.1
  have hK := F.2.2.2.2.2.2.1
  have hl : lv_has ls 5 [(0, .ref a0), (1, .int x1), (2, .int x2)] := hl
  refine lv_aload_n hx hb dX4_greatestTrap_0 rfl (lv_at hl 0 rfl) ?_
  refine lv_iload_n hx hb dX4_greatestTrap_1 rfl (lv_at hl 1 rfl) ?_
  refine lv_iload_n hx hb dX4_greatestTrap_2 rfl (lv_at hl 2 rfl) ?_
  obtain ⟨q1, hq2, h⟩ := bd h
  refine kvI (ws' := [(a0, .inr (3, [.ref a_s, .ref a_past, .ref a_kept, .int zisKept, .int zpasts, .ref a_text, .int ztyped, .ref a_measure, .int zmost1, .int zmost3, .int zmost5, .ref a_chosen, .ref a_ways, .int zspot, .int zreason, .int zplaces, .ref a_owners, .ref a_ranks, .ref a_sets, .ref a_toldAt, .ref a_line])), (a_s, .inl (cI, 37, .inl zs))]) (wr := []) (As := [.int x1, .int x2]) F (c_X4_isSet l D cI cC cH a0 a_s a_past a_kept a_text a_measure a_chosen a_ways a_owners a_ranks a_sets a_toldAt a_line N x1 x2 zs zisKept zpasts ztyped zmost1 zmost3 zmost5 zspot zreason zplaces q1 hq2) yfX4_isSet ⟨wd3_77, wd3_79, wdp_33⟩ hP hD hS [0, 1] [] [0, 1] rfl rfl (by decide) (by decide) (by decide) rfl (by decide) 0 3 rfl rfl rfl ⟨Nat.le_of_ble_eq_true rfl, Nat.le_of_ble_eq_true rfl, Nat.zero_le _, Nat.zero_le _⟩ rfl hl rfl (Nat.le_of_ble_eq_true rfl) dX4_greatestTrap_3 (fun H locs hP hD hS => ?_)
  refine lv_if_ne (tgt := 11) hx hb dX4_greatestTrap_6 (by decide) (fun c3 => ?_) (fun c3 => ?_)
  · have h := itF h c3
    refine lv_iload_n hx hb dX4_greatestTrap_11 rfl (lv_at hl 2 rfl) ?_
    refine lv_istore_n (lv' := [(3, .int x2), (0, .ref a0), (1, .int x1), (2, .int x2)]) hx hb dX4_greatestTrap_12 rfl hl (by decide) rfl (fun ls hl => ?_)
    refine lv_iconst (v := 0) hx hb dX4_greatestTrap_13 (by decide) ?_
    refine lv_istore (lv' := [(4, .int 0), (3, .int x2), (0, .ref a0), (1, .int x1), (2, .int x2)]) hx hb dX4_greatestTrap_14 hl (by decide) rfl (fun ls hl => ?_)
    have L_16 : ∀ (x1_16 : Int32) (zs_16 : Nat → Int32) (zisKept_16 : Int32) (zpasts_16 : Int32) (ztyped_16 : Int32) (zmost1_16 : Int32) (zmost3_16 : Int32) (zmost5_16 : Int32) (zspot_16 : Int32) (zreason_16 : Int32) (zplaces_16 : Int32), ∀ (n_16 : Nat) (x3_16 : Int32) (x4_16 : Int32) (q7 : (Int32)), f_X4_greatestTrap_L16 N x1_16 zs_16 n_16 x3_16 x4_16 = some q7 → (∀ (ls : Array Slot) (H : Heap) (locs : List Loc), lv_has ls 5 [(3, .int q7)] → va_P D vwCl [(a0, .inr (3, [.ref a_s, .ref a_past, .ref a_kept, .int zisKept_16, .int zpasts_16, .ref a_text, .int ztyped_16, .ref a_measure, .int zmost1_16, .int zmost3_16, .int zmost5_16, .ref a_chosen, .ref a_ways, .int zspot_16, .int zreason_16, .int zplaces_16, .ref a_owners, .ref a_ranks, .ref a_sets, .ref a_toldAt, .ref a_line])), (a_s, .inl (cI, 37, .inl zs_16))] H → va_D A [(a0, .inr (3, [.ref a_s, .ref a_past, .ref a_kept, .int zisKept_16, .int zpasts_16, .ref a_text, .int ztyped_16, .ref a_measure, .int zmost1_16, .int zmost3_16, .int zmost5_16, .ref a_chosen, .ref a_ways, .int zspot_16, .int zreason_16, .int zplaces_16, .ref a_owners, .ref a_ranks, .ref a_sets, .ref a_toldAt, .ref a_line])), (a_s, .inl (cI, 37, .inl zs_16))] → va_S A s.heap H locs → W p l e (rmm 2 44) s m args below meth c H locs 0 0 Q (F0 m 36 ls [])) → ∀ (ls : Array Slot) (H : Heap) (locs : List Loc), lv_has ls 5 [(0, .ref a0), (1, .int x1_16), (3, .int x3_16), (4, .int x4_16)] → va_P D vwCl [(a0, .inr (3, [.ref a_s, .ref a_past, .ref a_kept, .int zisKept_16, .int zpasts_16, .ref a_text, .int ztyped_16, .ref a_measure, .int zmost1_16, .int zmost3_16, .int zmost5_16, .ref a_chosen, .ref a_ways, .int zspot_16, .int zreason_16, .int zplaces_16, .ref a_owners, .ref a_ranks, .ref a_sets, .ref a_toldAt, .ref a_line])), (a_s, .inl (cI, 37, .inl zs_16))] H → va_D A [(a0, .inr (3, [.ref a_s, .ref a_past, .ref a_kept, .int zisKept_16, .int zpasts_16, .ref a_text, .int ztyped_16, .ref a_measure, .int zmost1_16, .int zmost3_16, .int zmost5_16, .ref a_chosen, .ref a_ways, .int zspot_16, .int zreason_16, .int zplaces_16, .ref a_owners, .ref a_ranks, .ref a_sets, .ref a_toldAt, .ref a_line])), (a_s, .inl (cI, 37, .inl zs_16))] → va_S A s.heap H locs → W p l e (rmm 2 44) s m args below meth c H locs 0 0 Q (F0 m 16 ls []) := by
      intro x1_16 zs_16 zisKept_16 zpasts_16 ztyped_16 zmost1_16 zmost3_16 zmost5_16 zspot_16 zreason_16 zplaces_16 n_16
      induction n_16 with
      | zero => intro x3_16 x4_16 q7 h; exact no_s h
      | succ n_16 ih_16 =>
        intro x3_16 x4_16 q7 h J_16 ls H locs hl hP hD hS
        rw [f_X4_greatestTrap_L16] at h
        refine lv_iload hx hb dX4_greatestTrap_16 (lv_at hl 3 rfl) ?_
        refine lv_bipush (v := 12) hx hb dX4_greatestTrap_18 (by decide) ?_
        refine lv_icmp_ge (tgt := 36) hx hb dX4_greatestTrap_20 (by decide) (fun c4 => ?_) (fun c4 => ?_)
        · have h := itT h c4
          obtain rfl := Option.some.inj h
          exact J_16 _ _ _ (lv_sub hl [2] rfl) hP hD hS
        · have h := itF h c4
          refine lv_aload_n hx hb dX4_greatestTrap_23 rfl (lv_at hl 0 rfl) ?_
          refine lv_iload_n hx hb dX4_greatestTrap_24 rfl (lv_at hl 1 rfl) ?_
          refine lv_iload_n hx hb dX4_greatestTrap_25 rfl (lv_at hl 2 rfl) ?_
          obtain ⟨q5, hq6, h⟩ := bd h
          refine kvI (ws' := [(a0, .inr (3, [.ref a_s, .ref a_past, .ref a_kept, .int zisKept_16, .int zpasts_16, .ref a_text, .int ztyped_16, .ref a_measure, .int zmost1_16, .int zmost3_16, .int zmost5_16, .ref a_chosen, .ref a_ways, .int zspot_16, .int zreason_16, .int zplaces_16, .ref a_owners, .ref a_ranks, .ref a_sets, .ref a_toldAt, .ref a_line])), (a_s, .inl (cI, 37, .inl zs_16))]) (wr := []) (As := [.int x1_16, .int x3_16]) F (c_X4_holding l D cI cC cH a0 a_s a_past a_kept a_text a_measure a_chosen a_ways a_owners a_ranks a_sets a_toldAt a_line N x1_16 x3_16 zs_16 zisKept_16 zpasts_16 ztyped_16 zmost1_16 zmost3_16 zmost5_16 zspot_16 zreason_16 zplaces_16 q5 hq6) yfX4_holding ⟨wd3_93, wd3_95, wdp_35⟩ hP hD hS [0, 1] [] [0, 1] rfl rfl (by decide) (by decide) (by decide) rfl (by decide) 0 3 rfl rfl rfl ⟨Nat.le_of_ble_eq_true rfl, Nat.le_of_ble_eq_true rfl, Nat.zero_le _, Nat.zero_le _⟩ rfl hl rfl (Nat.le_of_ble_eq_true rfl) dX4_greatestTrap_26 (fun H locs hP hD hS => ?_)
          refine lv_istore_n (lv' := [(3, .int q5), (0, .ref a0), (1, .int x1_16), (4, .int x4_16)]) hx hb dX4_greatestTrap_29 rfl hl (by decide) rfl (fun ls hl => ?_)
          refine lv_iinc (v := x4_16 + 1) (lv' := [(4, .int (x4_16 + 1)), (3, .int q5), (0, .ref a0), (1, .int x1_16)]) hx hb dX4_greatestTrap_30 hl (k := 3) rfl rfl (by decide) rfl (fun ls hl => ?_)
          refine lv_goto (tgt := 16) hx hb dX4_greatestTrap_33 (by decide) ?_
          exact ih_16 q5 (x4_16 + 1) _ h J_16 _ _ _ (lv_sub hl [2, 3, 1, 0] rfl) hP hD hS
    obtain ⟨q8, hb9, h⟩ := bd h
    refine L_16 x1 zs zisKept zpasts ztyped zmost1 zmost3 zmost5 zspot zreason zplaces N x2 0 q8 hb9 ?_ _ _ _ (lv_sub hl [2, 3, 1, 0] rfl) hP hD hS
    intro ls H locs hl hP hD hS
    refine lv_iload_n hx hb dX4_greatestTrap_36 rfl (lv_at hl 0 rfl) ?_
    obtain rfl := Option.some.inj h
    exact hret _ _ _ _ _ rfl hP hD hS dX4_greatestTrap_37
  · have h := itT h c3
    refine lv_iconst (v := (-1)) hx hb dX4_greatestTrap_9 (by decide) ?_
    obtain rfl := Option.some.inj h
    exact hret _ _ _ _ _ rfl hP hD hS dX4_greatestTrap_10
def f_X4_play_L33 (N : Nat) (zchosen_33 : Nat → Int32) : Nat → Int32 → Int32 → Int32 → Option (Int32 × Int32 × Int32)
  | 0, _, _, _ => none
  | n_33 + 1, x4_33, x5_33, x6_33 =>
    if x6_33 < 0 then (some (x4_33, x5_33, x6_33)) else (if ((x4_33 >>> (x6_33 &&& 31)) &&& 1) = 0 then (chk (gi x6_33 12) (f_X4_play_L33 N zchosen_33 n_33 (x4_33 ||| ((1 : Int32) <<< (x6_33 &&& 31))) x6_33 (zchosen_33 (Int32.toNatClampNeg x6_33)))) else (some (x4_33, x5_33, x6_33)))
def f_X4_play_L124 (N : Nat) (zs_124 : Nat → Int32) (zchosen_124 : Nat → Int32) : Nat → Int32 → Int32 → Int32 → Option (Int32)
  | 0, _, _, _ => none
  | n_124 + 1, x7_124, x8_124, x9_124 =>
    if 12 ≤ x9_124 then (some x7_124) else (chk (gi (13 + x8_124) 37) (Option.bind (α := Int32) (if (zs_124 (Int32.toNatClampNeg (13 + x8_124))) ≤ x7_124 then (some (x7_124)) else (chk (gi (13 + x8_124) 37) (some (zs_124 (Int32.toNatClampNeg (13 + x8_124)))))) (fun q24 => chk (gi x8_124 12) (f_X4_play_L124 N zs_124 zchosen_124 n_124 q24 (zchosen_124 (Int32.toNatClampNeg x8_124)) (x9_124 + 1)))))
def f_X4_play (N : Nat) (x1 : Int32) (x2 : Int32) (zs : Nat → Int32) (zmeasure : Nat → Int32) (zmost1 : Int32) (zmost3 : Int32) (zmost5 : Int32) (zchosen : Nat → Int32) (zways : Nat → Int32) : Option (Int32 × (Nat → Int32) × (Nat → Int32) × Int32 × Int32 × Int32 × (Nat → Int32) × (Nat → Int32)) :=
    Option.bind (f_X4_isPlace N x1 zs) (fun q1 => if q1 = 0 then (some ((-1), zs, zmeasure, zmost1, zmost3, zmost5, zchosen, zways)) else (Option.bind (f_X4_in N x2 0 3) (fun q4 => if q4 = 0 then (some ((-1), zs, zmeasure, zmost1, zmost3, zmost5, zchosen, zways)) else (Option.bind (f_X4_chooses N zs zmeasure zmost1 zmost3 zmost5 zchosen zways) (fun q7 => Option.bind (f_X4_play_L33 N q7.2.2.2.2.2.2.1 N 0 x1 x1) (fun q13 => Option.bind (α := (Int32 × (Nat → Int32) × (Nat → Int32) × Int32 × Int32 × Int32 × (Nat → Int32) × (Nat → Int32)) ⊕ (Unit)) (if x2 = 0 then (some (.inr ())) else (if 0 ≤ q7.1 then (if 0 ≤ q13.2.2 then (Option.bind (f_X4_play_L124 N q7.2.1 q7.2.2.2.2.2.2.1 N 0 q13.2.2 0) (fun q31 => if x2 = 1 then (some (.inl (q13.2.2, q7.2.1, q7.2.2.1, q7.2.2.2.1, q7.2.2.2.2.1, q7.2.2.2.2.2.1, q7.2.2.2.2.2.2.1, q7.2.2.2.2.2.2.2))) else (if x2 = 2 then (some (.inl (q31, q7.2.1, q7.2.2.1, q7.2.2.2.1, q7.2.2.2.2.1, q7.2.2.2.2.2.1, q7.2.2.2.2.2.2.1, q7.2.2.2.2.2.2.2))) else (some (.inl (q31 - q31 / 2 * 2, q7.2.1, q7.2.2.1, q7.2.2.2.1, q7.2.2.2.2.1, q7.2.2.2.2.2.1, q7.2.2.2.2.2.2.1, q7.2.2.2.2.2.2.2)))))) else (if x2 = 3 then (chk (gi (1 + q13.2.1) 37) (some (.inl (1 - (q7.2.1 (Int32.toNatClampNeg (1 + q13.2.1))), q7.2.1, q7.2.2.1, q7.2.2.2.1, q7.2.2.2.2.1, q7.2.2.2.2.2.1, q7.2.2.2.2.2.2.1, q7.2.2.2.2.2.2.2)))) else (some (.inl ((-4), q7.2.1, q7.2.2.1, q7.2.2.2.1, q7.2.2.2.2.1, q7.2.2.2.2.2.1, q7.2.2.2.2.2.2.1, q7.2.2.2.2.2.2.2))))) else (some (.inr ())))) (fun q15 => sm q15 some (fun t16 => Option.bind (f_X4_ones N q13.1) (fun q37 => some (q37, q7.2.1, q7.2.2.1, q7.2.2.2.1, q7.2.2.2.2.1, q7.2.2.2.2.2.1, q7.2.2.2.2.2.2.1, q7.2.2.2.2.2.2.2))))))))))
set_option maxHeartbeats 4000000 in
set_option maxRecDepth 100000 in
theorem c_X4_play (l : Launch) (D : va_G) (cI cC cH : ClassId) (a0 : Nat) (a_s : Nat) (a_past : Nat) (a_kept : Nat) (a_text : Nat) (a_measure : Nat) (a_chosen : Nat) (a_ways : Nat) (a_owners : Nat) (a_ranks : Nat) (a_sets : Nat) (a_toldAt : Nat) (a_line : Nat) (N : Nat) (x1 : Int32) (x2 : Int32) (zs : Nat → Int32) (zisKept : Int32) (zpasts : Int32) (ztyped : Int32) (zmeasure : Nat → Int32) (zmost1 : Int32) (zmost3 : Int32) (zmost5 : Int32) (zchosen : Nat → Int32) (zways : Nat → Int32) (zspot : Int32) (zreason : Int32) (zplaces : Int32) (y : Int32 × (Nat → Int32) × (Nat → Int32) × Int32 × Int32 × Int32 × (Nat → Int32) × (Nat → Int32)) (h : f_X4_play N x1 x2 zs zmeasure zmost1 zmost3 zmost5 zchosen zways = some y) : CTi l yX4_play cX4_play 10 (some .int) 4 98 D (tyL cI cC cH) [.ref a0, .int x1, .int x2] [(a0, .inr (3, [.ref a_s, .ref a_past, .ref a_kept, .int zisKept, .int zpasts, .ref a_text, .int ztyped, .ref a_measure, .int zmost1, .int zmost3, .int zmost5, .ref a_chosen, .ref a_ways, .int zspot, .int zreason, .int zplaces, .ref a_owners, .ref a_ranks, .ref a_sets, .ref a_toldAt, .ref a_line])), (a_s, .inl (cI, 37, .inl zs)), (a_measure, .inl (cI, 12, .inl zmeasure)), (a_chosen, .inl (cI, 12, .inl zchosen)), (a_ways, .inl (cI, 12, .inl zways))] [(a0, .inr (3, [.ref a_s, .ref a_past, .ref a_kept, .int zisKept, .int zpasts, .ref a_text, .int ztyped, .ref a_measure, .int y.2.2.2.1, .int y.2.2.2.2.1, .int y.2.2.2.2.2.1, .ref a_chosen, .ref a_ways, .int zspot, .int zreason, .int zplaces, .ref a_owners, .ref a_ranks, .ref a_sets, .ref a_toldAt, .ref a_line])), (a_s, .inl (cI, 37, .inl y.2.1)), (a_measure, .inl (cI, 12, .inl y.2.2.1)), (a_chosen, .inl (cI, 12, .inl y.2.2.2.2.2.2.1)), (a_ways, .inl (cI, 12, .inl y.2.2.2.2.2.2.2))] y.1 := by
  unfold f_X4_play at h
  refine ctI (by decide) (Nat.le_of_ble_eq_true rfl) ?_
  intro p e s m args below meth c A Q ls F hret hP hD hS hl
  have hx := F.1
  have hb := F.2.1
  have hown : s.vm.findClass RX4 = some m.cls := F.2.2.2.1
  have hts := F.2.2.2.2.1
  have hN := F.2.2.2.2.2.1
  have hK := F.2.2.2.2.2.2.1
  have hl : lv_has ls 10 [(0, .ref a0), (1, .int x1), (2, .int x2)] := hl
  refine lv_aload_n hx hb dX4_play_0 rfl (lv_at hl 0 rfl) ?_
  refine lv_iload_n hx hb dX4_play_1 rfl (lv_at hl 1 rfl) ?_
  obtain ⟨q1, hq2, h⟩ := bd h
  refine kvI (ws' := [(a0, .inr (3, [.ref a_s, .ref a_past, .ref a_kept, .int zisKept, .int zpasts, .ref a_text, .int ztyped, .ref a_measure, .int zmost1, .int zmost3, .int zmost5, .ref a_chosen, .ref a_ways, .int zspot, .int zreason, .int zplaces, .ref a_owners, .ref a_ranks, .ref a_sets, .ref a_toldAt, .ref a_line])), (a_s, .inl (cI, 37, .inl zs)), (a_measure, .inl (cI, 12, .inl zmeasure)), (a_chosen, .inl (cI, 12, .inl zchosen)), (a_ways, .inl (cI, 12, .inl zways))]) (wr := [(a_measure, .inl (cI, 12, .inl zmeasure)), (a_chosen, .inl (cI, 12, .inl zchosen)), (a_ways, .inl (cI, 12, .inl zways))]) (As := [.int x1]) F (c_X4_isPlace l D cI cC cH a0 a_s a_past a_kept a_text a_measure a_chosen a_ways a_owners a_ranks a_sets a_toldAt a_line N x1 zs zisKept zpasts ztyped zmost1 zmost3 zmost5 zspot zreason zplaces q1 hq2) yfX4_isPlace ⟨wd2_231, wd2_233, wdp_20⟩ hP hD hS [0, 1] [2, 3, 4] [3, 4, 0, 1, 2] rfl rfl (by decide) (by decide) (by decide) rfl (by decide) 0 3 rfl rfl rfl ⟨Nat.le_of_ble_eq_true rfl, Nat.le_of_ble_eq_true rfl, Nat.zero_le _, Nat.zero_le _⟩ rfl hl rfl (Nat.le_of_ble_eq_true rfl) dX4_play_2 (fun H locs hP hD hS => ?_)
  refine lv_if_eq (tgt := 17) hx hb dX4_play_5 (by decide) (fun c3 => ?_) (fun c3 => ?_)
  · have h := itT h c3
    refine lv_iconst (v := (-1)) hx hb dX4_play_17 (by decide) ?_
    obtain rfl := Option.some.inj h
    exact hret _ _ _ _ _ rfl hP hD hS dX4_play_18
  · have h := itF h c3
    refine lv_iload_n hx hb dX4_play_8 rfl (lv_at hl 2 rfl) ?_
    refine lv_iconst (v := 0) hx hb dX4_play_9 (by decide) ?_
    refine lv_iconst (v := 3) hx hb dX4_play_10 (by decide) ?_
    obtain ⟨q4, hq5, h⟩ := bd h
    refine ks0 (As := [.int x2, .int 0, .int 3]) F (c_X4_in l D cI cC cH  N x2 0 3 q4 hq5) yfX4_in ⟨wd2_220, wd2_221⟩ hP hD hS ⟨Nat.le_of_ble_eq_true rfl, Nat.le_of_ble_eq_true rfl, Nat.zero_le _, Nat.zero_le _⟩ rfl hl rfl (Nat.le_of_ble_eq_true rfl) dX4_play_11 (fun H locs hP hD hS => ?_)
    refine lv_if_ne (tgt := 19) hx hb dX4_play_14 (by decide) (fun c6 => ?_) (fun c6 => ?_)
    · have h := itF h c6
      refine lv_aload_n hx hb dX4_play_19 rfl (lv_at hl 0 rfl) ?_
      obtain ⟨q7, hq8, h⟩ := bd h
      refine kvI (ws' := [(a0, .inr (3, [.ref a_s, .ref a_past, .ref a_kept, .int zisKept, .int zpasts, .ref a_text, .int ztyped, .ref a_measure, .int q7.2.2.2.1, .int q7.2.2.2.2.1, .int q7.2.2.2.2.2.1, .ref a_chosen, .ref a_ways, .int zspot, .int zreason, .int zplaces, .ref a_owners, .ref a_ranks, .ref a_sets, .ref a_toldAt, .ref a_line])), (a_s, .inl (cI, 37, .inl q7.2.1)), (a_measure, .inl (cI, 12, .inl q7.2.2.1)), (a_chosen, .inl (cI, 12, .inl q7.2.2.2.2.2.2.1)), (a_ways, .inl (cI, 12, .inl q7.2.2.2.2.2.2.2))]) (wr := []) (As := []) F (c_X4_chooses l D cI cC cH a0 a_s a_past a_kept a_text a_measure a_chosen a_ways a_owners a_ranks a_sets a_toldAt a_line N zs zisKept zpasts ztyped zmeasure zmost1 zmost3 zmost5 zchosen zways zspot zreason zplaces q7 hq8) yfX4_chooses ⟨wd3_46, wd3_48, wdp_28⟩ hP hD hS [0, 1, 2, 3, 4] [] [0, 1, 2, 3, 4] rfl rfl (by decide) (by decide) (by decide) rfl (by decide) 0 3 rfl rfl rfl ⟨Nat.le_of_ble_eq_true rfl, Nat.le_of_ble_eq_true rfl, Nat.zero_le _, Nat.zero_le _⟩ rfl hl rfl (Nat.le_of_ble_eq_true rfl) dX4_play_20 (fun H locs hP hD hS => ?_)
      refine lv_istore_n (lv' := [(3, .int q7.1), (0, .ref a0), (1, .int x1), (2, .int x2)]) hx hb dX4_play_23 rfl hl (by decide) rfl (fun ls hl => ?_)
      refine lv_iconst (v := 0) hx hb dX4_play_24 (by decide) ?_
      refine lv_istore (lv' := [(4, .int 0), (3, .int q7.1), (0, .ref a0), (1, .int x1), (2, .int x2)]) hx hb dX4_play_25 hl (by decide) rfl (fun ls hl => ?_)
      refine lv_iload_n hx hb dX4_play_27 rfl (lv_at hl 3 rfl) ?_
      refine lv_istore (lv' := [(5, .int x1), (4, .int 0), (3, .int q7.1), (0, .ref a0), (1, .int x1), (2, .int x2)]) hx hb dX4_play_28 hl (by decide) rfl (fun ls hl => ?_)
      refine lv_iload_n hx hb dX4_play_30 rfl (lv_at hl 4 rfl) ?_
      refine lv_istore (lv' := [(6, .int x1), (5, .int x1), (4, .int 0), (3, .int q7.1), (0, .ref a0), (1, .int x1), (2, .int x2)]) hx hb dX4_play_31 hl (by decide) rfl (fun ls hl => ?_)
      have L_33 : ∀ (x2_33 : Int32) (x3_33 : Int32) (zs_33 : Nat → Int32) (zisKept_33 : Int32) (zpasts_33 : Int32) (ztyped_33 : Int32) (zmeasure_33 : Nat → Int32) (zmost1_33 : Int32) (zmost3_33 : Int32) (zmost5_33 : Int32) (zchosen_33 : Nat → Int32) (zways_33 : Nat → Int32) (zspot_33 : Int32) (zreason_33 : Int32) (zplaces_33 : Int32), ∀ (n_33 : Nat) (x4_33 : Int32) (x5_33 : Int32) (x6_33 : Int32) (q12 : (Int32 × Int32 × Int32)), f_X4_play_L33 N zchosen_33 n_33 x4_33 x5_33 x6_33 = some q12 → (∀ (ls : Array Slot) (H : Heap) (locs : List Loc), lv_has ls 10 [(0, .ref a0), (2, .int x2_33), (3, .int x3_33), (4, .int q12.1), (5, .int q12.2.1), (6, .int q12.2.2)] → va_P D vwCl [(a0, .inr (3, [.ref a_s, .ref a_past, .ref a_kept, .int zisKept_33, .int zpasts_33, .ref a_text, .int ztyped_33, .ref a_measure, .int zmost1_33, .int zmost3_33, .int zmost5_33, .ref a_chosen, .ref a_ways, .int zspot_33, .int zreason_33, .int zplaces_33, .ref a_owners, .ref a_ranks, .ref a_sets, .ref a_toldAt, .ref a_line])), (a_s, .inl (cI, 37, .inl zs_33)), (a_measure, .inl (cI, 12, .inl zmeasure_33)), (a_chosen, .inl (cI, 12, .inl zchosen_33)), (a_ways, .inl (cI, 12, .inl zways_33))] H → va_D A [(a0, .inr (3, [.ref a_s, .ref a_past, .ref a_kept, .int zisKept_33, .int zpasts_33, .ref a_text, .int ztyped_33, .ref a_measure, .int zmost1_33, .int zmost3_33, .int zmost5_33, .ref a_chosen, .ref a_ways, .int zspot_33, .int zreason_33, .int zplaces_33, .ref a_owners, .ref a_ranks, .ref a_sets, .ref a_toldAt, .ref a_line])), (a_s, .inl (cI, 37, .inl zs_33)), (a_measure, .inl (cI, 12, .inl zmeasure_33)), (a_chosen, .inl (cI, 12, .inl zchosen_33)), (a_ways, .inl (cI, 12, .inl zways_33))] → va_S A s.heap H locs → W p l e (rmm 4 98) s m args below meth c H locs 0 0 Q (F0 m 73 ls [])) → ∀ (ls : Array Slot) (H : Heap) (locs : List Loc), lv_has ls 10 [(0, .ref a0), (2, .int x2_33), (3, .int x3_33), (4, .int x4_33), (5, .int x5_33), (6, .int x6_33)] → va_P D vwCl [(a0, .inr (3, [.ref a_s, .ref a_past, .ref a_kept, .int zisKept_33, .int zpasts_33, .ref a_text, .int ztyped_33, .ref a_measure, .int zmost1_33, .int zmost3_33, .int zmost5_33, .ref a_chosen, .ref a_ways, .int zspot_33, .int zreason_33, .int zplaces_33, .ref a_owners, .ref a_ranks, .ref a_sets, .ref a_toldAt, .ref a_line])), (a_s, .inl (cI, 37, .inl zs_33)), (a_measure, .inl (cI, 12, .inl zmeasure_33)), (a_chosen, .inl (cI, 12, .inl zchosen_33)), (a_ways, .inl (cI, 12, .inl zways_33))] H → va_D A [(a0, .inr (3, [.ref a_s, .ref a_past, .ref a_kept, .int zisKept_33, .int zpasts_33, .ref a_text, .int ztyped_33, .ref a_measure, .int zmost1_33, .int zmost3_33, .int zmost5_33, .ref a_chosen, .ref a_ways, .int zspot_33, .int zreason_33, .int zplaces_33, .ref a_owners, .ref a_ranks, .ref a_sets, .ref a_toldAt, .ref a_line])), (a_s, .inl (cI, 37, .inl zs_33)), (a_measure, .inl (cI, 12, .inl zmeasure_33)), (a_chosen, .inl (cI, 12, .inl zchosen_33)), (a_ways, .inl (cI, 12, .inl zways_33))] → va_S A s.heap H locs → W p l e (rmm 4 98) s m args below meth c H locs 0 0 Q (F0 m 33 ls []) := by
        intro x2_33 x3_33 zs_33 zisKept_33 zpasts_33 ztyped_33 zmeasure_33 zmost1_33 zmost3_33 zmost5_33 zchosen_33 zways_33 zspot_33 zreason_33 zplaces_33 n_33
        induction n_33 with
        | zero => intro x4_33 x5_33 x6_33 q12 h; exact no_s h
        | succ n_33 ih_33 =>
          intro x4_33 x5_33 x6_33 q12 h J_33 ls H locs hl hP hD hS
          rw [f_X4_play_L33] at h
          refine lv_iload hx hb dX4_play_33 (lv_at hl 5 rfl) ?_
          refine lv_if_lt (tgt := 73) hx hb dX4_play_35 (by decide) (fun c9 => ?_) (fun c9 => ?_)
          · have h := itT h c9
            obtain rfl := Option.some.inj h
            exact J_33 _ _ _ (lv_sub hl [0, 1, 2, 3, 4, 5] rfl) hP hD hS
          · have h := itF h c9
            refine lv_iload hx hb dX4_play_38 (lv_at hl 3 rfl) ?_
            refine lv_iload hx hb dX4_play_40 (lv_at hl 5 rfl) ?_
            refine lv_ishr hx hb dX4_play_42 ?_
            refine lv_iconst (v := 1) hx hb dX4_play_43 (by decide) ?_
            refine lv_iand hx hb dX4_play_44 ?_
            refine lv_if_ne (tgt := 73) hx hb dX4_play_45 (by decide) (fun c10 => ?_) (fun c10 => ?_)
            · have h := itF h c10
              obtain rfl := Option.some.inj h
              exact J_33 _ _ _ (lv_sub hl [0, 1, 2, 3, 4, 5] rfl) hP hD hS
            · have h := itT h c10
              refine lv_iload hx hb dX4_play_48 (lv_at hl 3 rfl) ?_
              refine lv_iconst (v := 1) hx hb dX4_play_50 (by decide) ?_
              refine lv_iload hx hb dX4_play_51 (lv_at hl 5 rfl) ?_
              refine lv_ishl hx hb dX4_play_53 ?_
              refine lv_ior hx hb dX4_play_54 ?_
              refine lv_istore (lv' := [(4, .int (x4_33 ||| ((1 : Int32) <<< (x6_33 &&& 31)))), (0, .ref a0), (2, .int x2_33), (3, .int x3_33), (5, .int x5_33), (6, .int x6_33)]) hx hb dX4_play_55 hl (by decide) rfl (fun ls hl => ?_)
              refine lv_iload hx hb dX4_play_57 (lv_at hl 5 rfl) ?_
              refine lv_istore (lv' := [(5, .int x6_33), (4, .int (x4_33 ||| ((1 : Int32) <<< (x6_33 &&& 31)))), (0, .ref a0), (2, .int x2_33), (3, .int x3_33), (6, .int x6_33)]) hx hb dX4_play_59 hl (by decide) rfl (fun ls hl => ?_)
              refine lv_aload_n hx hb dX4_play_61 rfl (lv_at hl 2 rfl) ?_
              refine va_get (D := D) (ci := 3) (v := .ref a_chosen) (C := RX4) (T := TX4) (N := 21) hx hb hts inG4 hown hK hP 0 rfl rfl 11 (by decide) (hts _ wd2_163) (fun _ h9 => h9) rfl dX4_play_62 ?_
              refine lv_iload hx hb dX4_play_65 (lv_at hl 5 rfl) ?_
              obtain ⟨g11, h⟩ := chk_s h
              refine va_iald hx hb hK hP 3 0 rfl rfl (gi_in g11) dX4_play_67 ?_
              refine lv_istore (lv' := [(6, .int (zchosen_33 (Int32.toNatClampNeg x6_33))), (5, .int x6_33), (4, .int (x4_33 ||| ((1 : Int32) <<< (x6_33 &&& 31)))), (0, .ref a0), (2, .int x2_33), (3, .int x3_33)]) hx hb dX4_play_68 hl (by decide) rfl (fun ls hl => ?_)
              refine lv_goto (tgt := 33) hx hb dX4_play_70 (by decide) ?_
              exact ih_33 (x4_33 ||| ((1 : Int32) <<< (x6_33 &&& 31))) x6_33 (zchosen_33 (Int32.toNatClampNeg x6_33)) _ h J_33 _ _ _ (lv_sub hl [3, 4, 5, 2, 1, 0] rfl) hP hD hS
      obtain ⟨q13, hb40, h⟩ := bd h
      refine L_33 x2 q7.1 q7.2.1 zisKept zpasts ztyped q7.2.2.1 q7.2.2.2.1 q7.2.2.2.2.1 q7.2.2.2.2.2.1 q7.2.2.2.2.2.2.1 q7.2.2.2.2.2.2.2 zspot zreason zplaces N 0 x1 x1 q13 hb40 ?_ _ _ _ (lv_sub hl [4, 6, 3, 2, 1, 0] rfl) hP hD hS
      intro ls H locs hl hP hD hS
      refine lv_iload_n hx hb dX4_play_73 rfl (lv_at hl 1 rfl) ?_
      obtain ⟨q15, hb39, h⟩ := bd h
      have J17 : ∀ t16, q15 = .inr t16 → ∀ (ls : Array Slot) (H : Heap) (locs : List Loc), lv_has ls 10 [(4, .int q13.1)] → va_P D vwCl [(a0, .inr (3, [.ref a_s, .ref a_past, .ref a_kept, .int zisKept, .int zpasts, .ref a_text, .int ztyped, .ref a_measure, .int q7.2.2.2.1, .int q7.2.2.2.2.1, .int q7.2.2.2.2.2.1, .ref a_chosen, .ref a_ways, .int zspot, .int zreason, .int zplaces, .ref a_owners, .ref a_ranks, .ref a_sets, .ref a_toldAt, .ref a_line])), (a_s, .inl (cI, 37, .inl q7.2.1)), (a_measure, .inl (cI, 12, .inl q7.2.2.1)), (a_chosen, .inl (cI, 12, .inl q7.2.2.2.2.2.2.1)), (a_ways, .inl (cI, 12, .inl q7.2.2.2.2.2.2.2))] H → va_D A [(a0, .inr (3, [.ref a_s, .ref a_past, .ref a_kept, .int zisKept, .int zpasts, .ref a_text, .int ztyped, .ref a_measure, .int q7.2.2.2.1, .int q7.2.2.2.2.1, .int q7.2.2.2.2.2.1, .ref a_chosen, .ref a_ways, .int zspot, .int zreason, .int zplaces, .ref a_owners, .ref a_ranks, .ref a_sets, .ref a_toldAt, .ref a_line])), (a_s, .inl (cI, 37, .inl q7.2.1)), (a_measure, .inl (cI, 12, .inl q7.2.2.1)), (a_chosen, .inl (cI, 12, .inl q7.2.2.2.2.2.2.1)), (a_ways, .inl (cI, 12, .inl q7.2.2.2.2.2.2.2))] → va_S A s.heap H locs → W p l e (rmm 4 98) s m args below meth c H locs 0 0 Q (F0 m 81 ls []) := by
        intro t16 e9 ls H locs hl hP hD hS
        rw [e9] at h
        have h := sm_r h
        refine lv_iload hx hb dX4_play_81 (lv_at hl 0 rfl) ?_
        obtain ⟨q37, hq38, h⟩ := bd h
        refine ks0 (As := [.int q13.1]) F (c_X4_ones l D cI cC cH  N q13.1 q37 hq38) yfX4_ones ⟨wd3_7, wd3_8⟩ hP hD hS ⟨Nat.le_of_ble_eq_true rfl, Nat.le_of_ble_eq_true rfl, Nat.zero_le _, Nat.zero_le _⟩ rfl hl rfl (Nat.le_of_ble_eq_true rfl) dX4_play_83 (fun H locs hP hD hS => ?_)
        obtain rfl := Option.some.inj h
        exact hret _ _ _ _ _ rfl hP hD hS dX4_play_86
      have hr18 : ∀ r9, q15 = .inl r9 → r9 = y := by
        intro r9 e9
        rw [e9] at h
        exact Option.some.inj h
      clear h
      have h := hb39
      clear hb39
      refine lv_if_eq (tgt := 81) hx hb dX4_play_74 (by decide) (fun c14 => ?_) (fun c14 => ?_)
      · have h := itT h c14
        obtain rfl := Option.some.inj h
        exact J17 _ rfl _ _ _ (lv_sub hl [3] rfl) hP hD hS
      · have h := itF h c14
        refine lv_iload_n hx hb dX4_play_77 rfl (lv_at hl 2 rfl) ?_
        refine lv_if_ge (tgt := 87) hx hb dX4_play_78 (by decide) (fun c19 => ?_) (fun c19 => ?_)
        · have h := itT h c19
          refine lv_iload hx hb dX4_play_87 (lv_at hl 5 rfl) ?_
          refine lv_if_ge (tgt := 114) hx hb dX4_play_89 (by decide) (fun c20 => ?_) (fun c20 => ?_)
          · have h := itT h c20
            refine lv_iconst (v := 0) hx hb dX4_play_114 (by decide) ?_
            refine lv_istore (lv' := [(7, .int 0), (0, .ref a0), (2, .int x2), (3, .int q7.1), (4, .int q13.1), (5, .int q13.2.1), (6, .int q13.2.2)]) hx hb dX4_play_115 hl (by decide) rfl (fun ls hl => ?_)
            refine lv_iload hx hb dX4_play_117 (lv_at hl 6 rfl) ?_
            refine lv_istore (lv' := [(8, .int q13.2.2), (7, .int 0), (0, .ref a0), (2, .int x2), (3, .int q7.1), (4, .int q13.1), (5, .int q13.2.1), (6, .int q13.2.2)]) hx hb dX4_play_119 hl (by decide) rfl (fun ls hl => ?_)
            refine lv_iconst (v := 0) hx hb dX4_play_121 (by decide) ?_
            refine lv_istore (lv' := [(9, .int 0), (8, .int q13.2.2), (7, .int 0), (0, .ref a0), (2, .int x2), (3, .int q7.1), (4, .int q13.1), (5, .int q13.2.1), (6, .int q13.2.2)]) hx hb dX4_play_122 hl (by decide) rfl (fun ls hl => ?_)
            have L_124 : ∀ (x2_124 : Int32) (x6_124 : Int32) (zs_124 : Nat → Int32) (zisKept_124 : Int32) (zpasts_124 : Int32) (ztyped_124 : Int32) (zmeasure_124 : Nat → Int32) (zmost1_124 : Int32) (zmost3_124 : Int32) (zmost5_124 : Int32) (zchosen_124 : Nat → Int32) (zways_124 : Nat → Int32) (zspot_124 : Int32) (zreason_124 : Int32) (zplaces_124 : Int32), ∀ (n_124 : Nat) (x7_124 : Int32) (x8_124 : Int32) (x9_124 : Int32) (q30 : (Int32)), f_X4_play_L124 N zs_124 zchosen_124 n_124 x7_124 x8_124 x9_124 = some q30 → (∀ (ls : Array Slot) (H : Heap) (locs : List Loc), lv_has ls 10 [(2, .int x2_124), (6, .int x6_124), (7, .int q30)] → va_P D vwCl [(a0, .inr (3, [.ref a_s, .ref a_past, .ref a_kept, .int zisKept_124, .int zpasts_124, .ref a_text, .int ztyped_124, .ref a_measure, .int zmost1_124, .int zmost3_124, .int zmost5_124, .ref a_chosen, .ref a_ways, .int zspot_124, .int zreason_124, .int zplaces_124, .ref a_owners, .ref a_ranks, .ref a_sets, .ref a_toldAt, .ref a_line])), (a_s, .inl (cI, 37, .inl zs_124)), (a_measure, .inl (cI, 12, .inl zmeasure_124)), (a_chosen, .inl (cI, 12, .inl zchosen_124)), (a_ways, .inl (cI, 12, .inl zways_124))] H → va_D A [(a0, .inr (3, [.ref a_s, .ref a_past, .ref a_kept, .int zisKept_124, .int zpasts_124, .ref a_text, .int ztyped_124, .ref a_measure, .int zmost1_124, .int zmost3_124, .int zmost5_124, .ref a_chosen, .ref a_ways, .int zspot_124, .int zreason_124, .int zplaces_124, .ref a_owners, .ref a_ranks, .ref a_sets, .ref a_toldAt, .ref a_line])), (a_s, .inl (cI, 37, .inl zs_124)), (a_measure, .inl (cI, 12, .inl zmeasure_124)), (a_chosen, .inl (cI, 12, .inl zchosen_124)), (a_ways, .inl (cI, 12, .inl zways_124))] → va_S A s.heap H locs → W p l e (rmm 4 98) s m args below meth c H locs 0 0 Q (F0 m 178 ls [])) → ∀ (ls : Array Slot) (H : Heap) (locs : List Loc), lv_has ls 10 [(0, .ref a0), (2, .int x2_124), (6, .int x6_124), (7, .int x7_124), (8, .int x8_124), (9, .int x9_124)] → va_P D vwCl [(a0, .inr (3, [.ref a_s, .ref a_past, .ref a_kept, .int zisKept_124, .int zpasts_124, .ref a_text, .int ztyped_124, .ref a_measure, .int zmost1_124, .int zmost3_124, .int zmost5_124, .ref a_chosen, .ref a_ways, .int zspot_124, .int zreason_124, .int zplaces_124, .ref a_owners, .ref a_ranks, .ref a_sets, .ref a_toldAt, .ref a_line])), (a_s, .inl (cI, 37, .inl zs_124)), (a_measure, .inl (cI, 12, .inl zmeasure_124)), (a_chosen, .inl (cI, 12, .inl zchosen_124)), (a_ways, .inl (cI, 12, .inl zways_124))] H → va_D A [(a0, .inr (3, [.ref a_s, .ref a_past, .ref a_kept, .int zisKept_124, .int zpasts_124, .ref a_text, .int ztyped_124, .ref a_measure, .int zmost1_124, .int zmost3_124, .int zmost5_124, .ref a_chosen, .ref a_ways, .int zspot_124, .int zreason_124, .int zplaces_124, .ref a_owners, .ref a_ranks, .ref a_sets, .ref a_toldAt, .ref a_line])), (a_s, .inl (cI, 37, .inl zs_124)), (a_measure, .inl (cI, 12, .inl zmeasure_124)), (a_chosen, .inl (cI, 12, .inl zchosen_124)), (a_ways, .inl (cI, 12, .inl zways_124))] → va_S A s.heap H locs → W p l e (rmm 4 98) s m args below meth c H locs 0 0 Q (F0 m 124 ls []) := by
              intro x2_124 x6_124 zs_124 zisKept_124 zpasts_124 ztyped_124 zmeasure_124 zmost1_124 zmost3_124 zmost5_124 zchosen_124 zways_124 zspot_124 zreason_124 zplaces_124 n_124
              induction n_124 with
              | zero => intro x7_124 x8_124 x9_124 q30 h; exact no_s h
              | succ n_124 ih_124 =>
                intro x7_124 x8_124 x9_124 q30 h J_124 ls H locs hl hP hD hS
                rw [f_X4_play_L124] at h
                refine lv_iload hx hb dX4_play_124 (lv_at hl 5 rfl) ?_
                refine lv_bipush (v := 12) hx hb dX4_play_126 (by decide) ?_
                refine lv_icmp_ge (tgt := 178) hx hb dX4_play_128 (by decide) (fun c21 => ?_) (fun c21 => ?_)
                · have h := itT h c21
                  obtain rfl := Option.some.inj h
                  exact J_124 _ _ _ (lv_sub hl [1, 2, 3] rfl) hP hD hS
                · have h := itF h c21
                  refine lv_aload_n hx hb dX4_play_131 rfl (lv_at hl 0 rfl) ?_
                  refine va_get (D := D) (ci := 3) (v := .ref a_s) (C := RX4) (T := TX4) (N := 21) hx hb hts inG4 hown hK hP 0 rfl rfl 0 (by decide) (hts _ wd2_152) (fun _ h9 => h9) rfl dX4_play_132 ?_
                  refine lv_bipush (v := 13) hx hb dX4_play_135 (by decide) ?_
                  refine lv_iload hx hb dX4_play_137 (lv_at hl 4 rfl) ?_
                  refine lv_iadd hx hb dX4_play_139 ?_
                  obtain ⟨g22, h⟩ := chk_s h
                  refine va_iald hx hb hK hP 1 0 rfl rfl (gi_in g22) dX4_play_140 ?_
                  refine lv_iload hx hb dX4_play_141 (lv_at hl 3 rfl) ?_
                  obtain ⟨q24, hb29, h⟩ := bd h
                  have J25 : ∀ (ls : Array Slot) (H : Heap) (locs : List Loc), lv_has ls 10 [(0, .ref a0), (2, .int x2_124), (6, .int x6_124), (8, .int x8_124), (9, .int x9_124)] → va_P D vwCl [(a0, .inr (3, [.ref a_s, .ref a_past, .ref a_kept, .int zisKept_124, .int zpasts_124, .ref a_text, .int ztyped_124, .ref a_measure, .int zmost1_124, .int zmost3_124, .int zmost5_124, .ref a_chosen, .ref a_ways, .int zspot_124, .int zreason_124, .int zplaces_124, .ref a_owners, .ref a_ranks, .ref a_sets, .ref a_toldAt, .ref a_line])), (a_s, .inl (cI, 37, .inl zs_124)), (a_measure, .inl (cI, 12, .inl zmeasure_124)), (a_chosen, .inl (cI, 12, .inl zchosen_124)), (a_ways, .inl (cI, 12, .inl zways_124))] H → va_D A [(a0, .inr (3, [.ref a_s, .ref a_past, .ref a_kept, .int zisKept_124, .int zpasts_124, .ref a_text, .int ztyped_124, .ref a_measure, .int zmost1_124, .int zmost3_124, .int zmost5_124, .ref a_chosen, .ref a_ways, .int zspot_124, .int zreason_124, .int zplaces_124, .ref a_owners, .ref a_ranks, .ref a_sets, .ref a_toldAt, .ref a_line])), (a_s, .inl (cI, 37, .inl zs_124)), (a_measure, .inl (cI, 12, .inl zmeasure_124)), (a_chosen, .inl (cI, 12, .inl zchosen_124)), (a_ways, .inl (cI, 12, .inl zways_124))] → va_S A s.heap H locs → W p l e (rmm 4 98) s m args below meth c H locs 0 0 Q (F0 m 161 ls [.int q24]) := by
                    intro ls H locs hl hP hD hS
                    refine lv_istore (lv' := [(7, .int q24), (0, .ref a0), (2, .int x2_124), (6, .int x6_124), (8, .int x8_124), (9, .int x9_124)]) hx hb dX4_play_161 hl (by decide) rfl (fun ls hl => ?_)
                    refine lv_aload_n hx hb dX4_play_163 rfl (lv_at hl 1 rfl) ?_
                    refine va_get (D := D) (ci := 3) (v := .ref a_chosen) (C := RX4) (T := TX4) (N := 21) hx hb hts inG4 hown hK hP 0 rfl rfl 11 (by decide) (hts _ wd2_163) (fun _ h9 => h9) rfl dX4_play_164 ?_
                    refine lv_iload hx hb dX4_play_167 (lv_at hl 4 rfl) ?_
                    obtain ⟨g28, h⟩ := chk_s h
                    refine va_iald hx hb hK hP 3 0 rfl rfl (gi_in g28) dX4_play_169 ?_
                    refine lv_istore (lv' := [(8, .int (zchosen_124 (Int32.toNatClampNeg x8_124))), (7, .int q24), (0, .ref a0), (2, .int x2_124), (6, .int x6_124), (9, .int x9_124)]) hx hb dX4_play_170 hl (by decide) rfl (fun ls hl => ?_)
                    refine lv_iinc (v := x9_124 + 1) (lv' := [(9, .int (x9_124 + 1)), (8, .int (zchosen_124 (Int32.toNatClampNeg x8_124))), (7, .int q24), (0, .ref a0), (2, .int x2_124), (6, .int x6_124)]) hx hb dX4_play_172 hl (k := 5) rfl rfl (by decide) rfl (fun ls hl => ?_)
                    refine lv_goto (tgt := 124) hx hb dX4_play_175 (by decide) ?_
                    exact ih_124 q24 (zchosen_124 (Int32.toNatClampNeg x8_124)) (x9_124 + 1) _ h J_124 _ _ _ (lv_sub hl [3, 4, 5, 2, 1, 0] rfl) hP hD hS
                  clear h
                  have h := hb29
                  clear hb29
                  refine lv_icmp_le (tgt := 159) hx hb dX4_play_143 (by decide) (fun c23 => ?_) (fun c23 => ?_)
                  · have h := itT h c23
                    refine lv_iload hx hb dX4_play_159 (lv_at hl 3 rfl) ?_
                    obtain rfl := Option.some.inj h
                    exact J25 _ _ _ (lv_sub hl [0, 1, 2, 4, 5] rfl) hP hD hS
                  · have h := itF h c23
                    refine lv_aload_n hx hb dX4_play_146 rfl (lv_at hl 0 rfl) ?_
                    refine va_get (D := D) (ci := 3) (v := .ref a_s) (C := RX4) (T := TX4) (N := 21) hx hb hts inG4 hown hK hP 0 rfl rfl 0 (by decide) (hts _ wd2_152) (fun _ h9 => h9) rfl dX4_play_147 ?_
                    refine lv_bipush (v := 13) hx hb dX4_play_150 (by decide) ?_
                    refine lv_iload hx hb dX4_play_152 (lv_at hl 4 rfl) ?_
                    refine lv_iadd hx hb dX4_play_154 ?_
                    obtain ⟨g27, h⟩ := chk_s h
                    refine va_iald hx hb hK hP 1 0 rfl rfl (gi_in g27) dX4_play_155 ?_
                    refine lv_goto (tgt := 161) hx hb dX4_play_156 (by decide) ?_
                    obtain rfl := Option.some.inj h
                    exact J25 _ _ _ (lv_sub hl [0, 1, 2, 4, 5] rfl) hP hD hS
            obtain ⟨q31, hb34, h⟩ := bd h
            refine L_124 x2 q13.2.2 q7.2.1 zisKept zpasts ztyped q7.2.2.1 q7.2.2.2.1 q7.2.2.2.2.1 q7.2.2.2.2.2.1 q7.2.2.2.2.2.2.1 q7.2.2.2.2.2.2.2 zspot zreason zplaces N 0 q13.2.2 0 q31 hb34 ?_ _ _ _ (lv_sub hl [3, 4, 8, 2, 1, 0] rfl) hP hD hS
            intro ls H locs hl hP hD hS
            refine lv_iload_n hx hb dX4_play_178 rfl (lv_at hl 0 rfl) ?_
            refine lv_iconst (v := 1) hx hb dX4_play_179 (by decide) ?_
            refine lv_icmp_ne (tgt := 188) hx hb dX4_play_180 (by decide) (fun c32 => ?_) (fun c32 => ?_)
            · have h := itF h c32
              refine lv_iload_n hx hb dX4_play_188 rfl (lv_at hl 0 rfl) ?_
              refine lv_iconst (v := 2) hx hb dX4_play_189 (by decide) ?_
              refine lv_icmp_ne (tgt := 198) hx hb dX4_play_190 (by decide) (fun c33 => ?_) (fun c33 => ?_)
              · have h := itF h c33
                refine lv_iload hx hb dX4_play_198 (lv_at hl 2 rfl) ?_
                refine lv_iconst (v := 2) hx hb dX4_play_200 (by decide) ?_
                refine lv_irem hx hb dX4_play_201 (by decide) ?_
                obtain rfl := Option.some.inj h
                obtain rfl := hr18 _ rfl
                exact hret _ _ _ _ _ rfl hP hD hS dX4_play_202
              · have h := itT h c33
                refine lv_iload hx hb dX4_play_193 (lv_at hl 2 rfl) ?_
                refine lv_goto (tgt := 202) hx hb dX4_play_195 (by decide) ?_
                obtain rfl := Option.some.inj h
                obtain rfl := hr18 _ rfl
                exact hret _ _ _ _ _ rfl hP hD hS dX4_play_202
            · have h := itT h c32
              refine lv_iload hx hb dX4_play_183 (lv_at hl 1 rfl) ?_
              refine lv_goto (tgt := 202) hx hb dX4_play_185 (by decide) ?_
              obtain rfl := Option.some.inj h
              obtain rfl := hr18 _ rfl
              exact hret _ _ _ _ _ rfl hP hD hS dX4_play_202
          · have h := itF h c20
            refine lv_iload_n hx hb dX4_play_92 rfl (lv_at hl 1 rfl) ?_
            refine lv_iconst (v := 3) hx hb dX4_play_93 (by decide) ?_
            refine lv_icmp_ne (tgt := 111) hx hb dX4_play_94 (by decide) (fun c35 => ?_) (fun c35 => ?_)
            · have h := itF h c35
              refine lv_bipush (v := (-4)) hx hb dX4_play_111 (by decide) ?_
              obtain rfl := Option.some.inj h
              obtain rfl := hr18 _ rfl
              exact hret _ _ _ _ _ rfl hP hD hS dX4_play_113
            · have h := itT h c35
              refine lv_iconst (v := 1) hx hb dX4_play_97 (by decide) ?_
              refine lv_aload_n hx hb dX4_play_98 rfl (lv_at hl 0 rfl) ?_
              refine va_get (D := D) (ci := 3) (v := .ref a_s) (C := RX4) (T := TX4) (N := 21) hx hb hts inG4 hown hK hP 0 rfl rfl 0 (by decide) (hts _ wd2_152) (fun _ h9 => h9) rfl dX4_play_99 ?_
              refine lv_iconst (v := 1) hx hb dX4_play_102 (by decide) ?_
              refine lv_iload hx hb dX4_play_103 (lv_at hl 4 rfl) ?_
              refine lv_iadd hx hb dX4_play_105 ?_
              obtain ⟨g36, h⟩ := chk_s h
              refine va_iald hx hb hK hP 1 0 rfl rfl (gi_in g36) dX4_play_106 ?_
              refine lv_isub hx hb dX4_play_107 ?_
              refine lv_goto (tgt := 113) hx hb dX4_play_108 (by decide) ?_
              obtain rfl := Option.some.inj h
              obtain rfl := hr18 _ rfl
              exact hret _ _ _ _ _ rfl hP hD hS dX4_play_113
        · have h := itF h c19
          obtain rfl := Option.some.inj h
          exact J17 _ rfl _ _ _ (lv_sub hl [3] rfl) hP hD hS
    · have h := itT h c6
      refine lv_iconst (v := (-1)) hx hb dX4_play_17 (by decide) ?_
      obtain rfl := Option.some.inj h
      exact hret _ _ _ _ _ rfl hP hD hS dX4_play_18
def f_X4_proves_L37 (N : Nat) (x1_37 : Int32) (x3_37 : Int32) (zchosen_37 : Nat → Int32) : Nat → Int32 → Int32 → (Nat → Int32) → Option (Int32 × (Nat → Int32))
  | 0, _, _, _ => none
  | n_37 + 1, x4_37, x5_37, zs_37 =>
    chk (gi 0 37) (if (zs_37 (Int32.toNatClampNeg 0)) ≤ x5_37 then (some (x4_37, zs_37)) else (Option.bind (α := Int32) (if ((x3_37 >>> (x5_37 &&& 31)) &&& 1) = 1 then (some (1)) else (some (0))) (fun q15 => Option.bind (α := Int32) (if q15 = 0 then (some (0)) else (chk (gi (1 + x5_37) 37) (if (zs_37 (Int32.toNatClampNeg (1 + x5_37))) = x1_37 then (some (1)) else (some (0))))) (fun q19 => Option.bind (α := Int32) (if q19 = 0 then (chk (gi (25 + x5_37) 37) (some (zs_37 (Int32.toNatClampNeg (25 + x5_37))))) else (chk (gi x5_37 12) (if (zchosen_37 (Int32.toNatClampNeg x5_37)) < 0 then (chk (gi (25 + x5_37) 37) (some (zs_37 (Int32.toNatClampNeg (25 + x5_37))))) else (chk (gi x5_37 12) (some ((1 : Int32) <<< ((zchosen_37 (Int32.toNatClampNeg x5_37)) &&& 31))))))) (fun q25 => chk (gi (25 + x5_37) 37) (Option.bind (α := Int32) (if x4_37 = 0 then (some (0)) else (if q15 = 0 then (some (1)) else (chk (gi (25 + x5_37) 37) (if (((upd zs_37 (Int32.toNatClampNeg (25 + x5_37)) q25) (Int32.toNatClampNeg (25 + x5_37))) &&& (x3_37 ^^^ (-1))) = 0 then (some (1)) else (some (0)))))) (fun q35 => f_X4_proves_L37 N x1_37 x3_37 zchosen_37 n_37 q35 (x5_37 + 1) (upd zs_37 (Int32.toNatClampNeg (25 + x5_37)) q25))))))))
def f_X4_proves_L204 (N : Nat) (zways_204 : Nat → Int32) : Nat → Int32 → (Nat → Int32) → Option ((Nat → Int32))
  | 0, _, _ => none
  | n_204 + 1, x7_204, zs_204 =>
    chk (gi 0 37) (if (zs_204 (Int32.toNatClampNeg 0)) ≤ x7_204 then (some zs_204) else (chk (gi x7_204 12) (chk (gi (25 + x7_204) 37) (f_X4_proves_L204 N zways_204 n_204 (x7_204 + 1) (upd zs_204 (Int32.toNatClampNeg (25 + x7_204)) (zways_204 (Int32.toNatClampNeg x7_204)))))))
def f_X4_proves (N : Nat) (x1 : Int32) (zs : Nat → Int32) (zmeasure : Nat → Int32) (zmost1 : Int32) (zmost3 : Int32) (zmost5 : Int32) (zchosen : Nat → Int32) (zways : Nat → Int32) : Option (Int32 × (Nat → Int32) × (Nat → Int32) × Int32 × Int32 × Int32 × (Nat → Int32) × (Nat → Int32)) :=
    Option.bind (f_X4_in N x1 0 1) (fun q1 => if q1 = 0 then (some ((-1), zs, zmeasure, zmost1, zmost3, zmost5, zchosen, zways)) else (Option.bind (f_X4_chooses N zs zmeasure zmost1 zmost3 zmost5 zchosen zways) (fun q4 => Option.bind (α := Int32) (if x1 = 0 then (some (q4.1)) else (Option.bind (f_X4_all N q4.2.1) (fun q10 => some (q10 - q4.1)))) (fun q7 => Option.bind (f_X4_proves_L37 N x1 q7 q4.2.2.2.2.2.2.1 N 1 0 q4.2.1) (fun q46 => Option.bind (f_X4_won N q46.2 q4.2.2.1 q4.2.2.2.1 q4.2.2.2.2.1 q4.2.2.2.2.2.1) (fun q47 => Option.bind (α := Int32) (if x1 = 0 then (some (q47.1)) else (Option.bind (f_X4_all N q46.2) (fun q53 => some (q53 - q47.1)))) (fun q50 => Option.bind (f_X4_proves_L204 N q4.2.2.2.2.2.2.2 N 0 q46.2) (fun q60 => if q46.1 = 0 then (some (0, q60, q47.2.1, q47.2.2.1, q47.2.2.2.1, q47.2.2.2.2, q4.2.2.2.2.2.2.1, q4.2.2.2.2.2.2.2)) else (if (q7 &&& (q50 ^^^ (-1))) = 0 then (some (1, q60, q47.2.1, q47.2.2.1, q47.2.2.2.1, q47.2.2.2.2, q4.2.2.2.2.2.2.1, q4.2.2.2.2.2.2.2)) else (some (0, q60, q47.2.1, q47.2.2.1, q47.2.2.2.1, q47.2.2.2.2, q4.2.2.2.2.2.2.1, q4.2.2.2.2.2.2.2)))))))))))
set_option maxHeartbeats 4000000 in
set_option maxRecDepth 100000 in
theorem c_X4_proves (l : Launch) (D : va_G) (cI cC cH : ClassId) (a0 : Nat) (a_s : Nat) (a_past : Nat) (a_kept : Nat) (a_text : Nat) (a_measure : Nat) (a_chosen : Nat) (a_ways : Nat) (a_owners : Nat) (a_ranks : Nat) (a_sets : Nat) (a_toldAt : Nat) (a_line : Nat) (N : Nat) (x1 : Int32) (zs : Nat → Int32) (zisKept : Int32) (zpasts : Int32) (ztyped : Int32) (zmeasure : Nat → Int32) (zmost1 : Int32) (zmost3 : Int32) (zmost5 : Int32) (zchosen : Nat → Int32) (zways : Nat → Int32) (zspot : Int32) (zreason : Int32) (zplaces : Int32) (y : Int32 × (Nat → Int32) × (Nat → Int32) × Int32 × Int32 × Int32 × (Nat → Int32) × (Nat → Int32)) (h : f_X4_proves N x1 zs zmeasure zmost1 zmost3 zmost5 zchosen zways = some y) : CTi l yX4_proves cX4_proves 8 (some .int) 4 98 D (tyL cI cC cH) [.ref a0, .int x1] [(a0, .inr (3, [.ref a_s, .ref a_past, .ref a_kept, .int zisKept, .int zpasts, .ref a_text, .int ztyped, .ref a_measure, .int zmost1, .int zmost3, .int zmost5, .ref a_chosen, .ref a_ways, .int zspot, .int zreason, .int zplaces, .ref a_owners, .ref a_ranks, .ref a_sets, .ref a_toldAt, .ref a_line])), (a_s, .inl (cI, 37, .inl zs)), (a_measure, .inl (cI, 12, .inl zmeasure)), (a_chosen, .inl (cI, 12, .inl zchosen)), (a_ways, .inl (cI, 12, .inl zways))] [(a0, .inr (3, [.ref a_s, .ref a_past, .ref a_kept, .int zisKept, .int zpasts, .ref a_text, .int ztyped, .ref a_measure, .int y.2.2.2.1, .int y.2.2.2.2.1, .int y.2.2.2.2.2.1, .ref a_chosen, .ref a_ways, .int zspot, .int zreason, .int zplaces, .ref a_owners, .ref a_ranks, .ref a_sets, .ref a_toldAt, .ref a_line])), (a_s, .inl (cI, 37, .inl y.2.1)), (a_measure, .inl (cI, 12, .inl y.2.2.1)), (a_chosen, .inl (cI, 12, .inl y.2.2.2.2.2.2.1)), (a_ways, .inl (cI, 12, .inl y.2.2.2.2.2.2.2))] y.1 := by
  unfold f_X4_proves at h
  refine ctI (by decide) (Nat.le_of_ble_eq_true rfl) ?_
  intro p e s m args below meth c A Q ls F hret hP hD hS hl
  have hx := F.1
  have hb := F.2.1
  have hown : s.vm.findClass RX4 = some m.cls := F.2.2.2.1
  have hts := F.2.2.2.2.1
  have hN := F.2.2.2.2.2.1
  have hK := F.2.2.2.2.2.2.1
  have hl : lv_has ls 8 [(0, .ref a0), (1, .int x1)] := hl
  refine lv_iload_n hx hb dX4_proves_0 rfl (lv_at hl 1 rfl) ?_
  refine lv_iconst (v := 0) hx hb dX4_proves_1 (by decide) ?_
  refine lv_iconst (v := 1) hx hb dX4_proves_2 (by decide) ?_
  obtain ⟨q1, hq2, h⟩ := bd h
  refine ks0 (As := [.int x1, .int 0, .int 1]) F (c_X4_in l D cI cC cH  N x1 0 1 q1 hq2) yfX4_in ⟨wd2_220, wd2_221⟩ hP hD hS ⟨Nat.le_of_ble_eq_true rfl, Nat.le_of_ble_eq_true rfl, Nat.zero_le _, Nat.zero_le _⟩ rfl hl rfl (Nat.le_of_ble_eq_true rfl) dX4_proves_3 (fun H locs hP hD hS => ?_)
  refine lv_if_ne (tgt := 11) hx hb dX4_proves_6 (by decide) (fun c3 => ?_) (fun c3 => ?_)
  · have h := itF h c3
    refine lv_aload_n hx hb dX4_proves_11 rfl (lv_at hl 0 rfl) ?_
    obtain ⟨q4, hq5, h⟩ := bd h
    refine kvI (ws' := [(a0, .inr (3, [.ref a_s, .ref a_past, .ref a_kept, .int zisKept, .int zpasts, .ref a_text, .int ztyped, .ref a_measure, .int q4.2.2.2.1, .int q4.2.2.2.2.1, .int q4.2.2.2.2.2.1, .ref a_chosen, .ref a_ways, .int zspot, .int zreason, .int zplaces, .ref a_owners, .ref a_ranks, .ref a_sets, .ref a_toldAt, .ref a_line])), (a_s, .inl (cI, 37, .inl q4.2.1)), (a_measure, .inl (cI, 12, .inl q4.2.2.1)), (a_chosen, .inl (cI, 12, .inl q4.2.2.2.2.2.2.1)), (a_ways, .inl (cI, 12, .inl q4.2.2.2.2.2.2.2))]) (wr := []) (As := []) F (c_X4_chooses l D cI cC cH a0 a_s a_past a_kept a_text a_measure a_chosen a_ways a_owners a_ranks a_sets a_toldAt a_line N zs zisKept zpasts ztyped zmeasure zmost1 zmost3 zmost5 zchosen zways zspot zreason zplaces q4 hq5) yfX4_chooses ⟨wd3_46, wd3_48, wdp_28⟩ hP hD hS [0, 1, 2, 3, 4] [] [0, 1, 2, 3, 4] rfl rfl (by decide) (by decide) (by decide) rfl (by decide) 0 3 rfl rfl rfl ⟨Nat.le_of_ble_eq_true rfl, Nat.le_of_ble_eq_true rfl, Nat.zero_le _, Nat.zero_le _⟩ rfl hl rfl (Nat.le_of_ble_eq_true rfl) dX4_proves_12 (fun H locs hP hD hS => ?_)
    refine lv_istore_n (lv' := [(2, .int q4.1), (0, .ref a0), (1, .int x1)]) hx hb dX4_proves_15 rfl hl (by decide) rfl (fun ls hl => ?_)
    refine lv_iload_n hx hb dX4_proves_16 rfl (lv_at hl 2 rfl) ?_
    obtain ⟨q7, hb66, h⟩ := bd h
    have J8 : ∀ (ls : Array Slot) (H : Heap) (locs : List Loc), lv_has ls 8 [(0, .ref a0), (1, .int x1)] → va_P D vwCl [(a0, .inr (3, [.ref a_s, .ref a_past, .ref a_kept, .int zisKept, .int zpasts, .ref a_text, .int ztyped, .ref a_measure, .int q4.2.2.2.1, .int q4.2.2.2.2.1, .int q4.2.2.2.2.2.1, .ref a_chosen, .ref a_ways, .int zspot, .int zreason, .int zplaces, .ref a_owners, .ref a_ranks, .ref a_sets, .ref a_toldAt, .ref a_line])), (a_s, .inl (cI, 37, .inl q4.2.1)), (a_measure, .inl (cI, 12, .inl q4.2.2.1)), (a_chosen, .inl (cI, 12, .inl q4.2.2.2.2.2.2.1)), (a_ways, .inl (cI, 12, .inl q4.2.2.2.2.2.2.2))] H → va_D A [(a0, .inr (3, [.ref a_s, .ref a_past, .ref a_kept, .int zisKept, .int zpasts, .ref a_text, .int ztyped, .ref a_measure, .int q4.2.2.2.1, .int q4.2.2.2.2.1, .int q4.2.2.2.2.2.1, .ref a_chosen, .ref a_ways, .int zspot, .int zreason, .int zplaces, .ref a_owners, .ref a_ranks, .ref a_sets, .ref a_toldAt, .ref a_line])), (a_s, .inl (cI, 37, .inl q4.2.1)), (a_measure, .inl (cI, 12, .inl q4.2.2.1)), (a_chosen, .inl (cI, 12, .inl q4.2.2.2.2.2.2.1)), (a_ways, .inl (cI, 12, .inl q4.2.2.2.2.2.2.2))] → va_S A s.heap H locs → W p l e (rmm 4 98) s m args below meth c H locs 0 0 Q (F0 m 30 ls [.int q7]) := by
      intro ls H locs hl hP hD hS
      refine lv_istore_n (lv' := [(3, .int q7), (0, .ref a0), (1, .int x1)]) hx hb dX4_proves_30 rfl hl (by decide) rfl (fun ls hl => ?_)
      refine lv_iconst (v := 1) hx hb dX4_proves_31 (by decide) ?_
      refine lv_istore (lv' := [(4, .int 1), (3, .int q7), (0, .ref a0), (1, .int x1)]) hx hb dX4_proves_32 hl (by decide) rfl (fun ls hl => ?_)
      refine lv_iconst (v := 0) hx hb dX4_proves_34 (by decide) ?_
      refine lv_istore (lv' := [(5, .int 0), (4, .int 1), (3, .int q7), (0, .ref a0), (1, .int x1)]) hx hb dX4_proves_35 hl (by decide) rfl (fun ls hl => ?_)
      have L_37 : ∀ (x1_37 : Int32) (x3_37 : Int32) (zisKept_37 : Int32) (zpasts_37 : Int32) (ztyped_37 : Int32) (zmeasure_37 : Nat → Int32) (zmost1_37 : Int32) (zmost3_37 : Int32) (zmost5_37 : Int32) (zchosen_37 : Nat → Int32) (zways_37 : Nat → Int32) (zspot_37 : Int32) (zreason_37 : Int32) (zplaces_37 : Int32), ∀ (n_37 : Nat) (x4_37 : Int32) (x5_37 : Int32) (zs_37 : Nat → Int32) (q45 : (Int32 × (Nat → Int32))), f_X4_proves_L37 N x1_37 x3_37 zchosen_37 n_37 x4_37 x5_37 zs_37 = some q45 → (∀ (ls : Array Slot) (H : Heap) (locs : List Loc), lv_has ls 8 [(0, .ref a0), (1, .int x1_37), (3, .int x3_37), (4, .int q45.1)] → va_P D vwCl [(a0, .inr (3, [.ref a_s, .ref a_past, .ref a_kept, .int zisKept_37, .int zpasts_37, .ref a_text, .int ztyped_37, .ref a_measure, .int zmost1_37, .int zmost3_37, .int zmost5_37, .ref a_chosen, .ref a_ways, .int zspot_37, .int zreason_37, .int zplaces_37, .ref a_owners, .ref a_ranks, .ref a_sets, .ref a_toldAt, .ref a_line])), (a_s, .inl (cI, 37, .inl q45.2)), (a_measure, .inl (cI, 12, .inl zmeasure_37)), (a_chosen, .inl (cI, 12, .inl zchosen_37)), (a_ways, .inl (cI, 12, .inl zways_37))] H → va_D A [(a0, .inr (3, [.ref a_s, .ref a_past, .ref a_kept, .int zisKept_37, .int zpasts_37, .ref a_text, .int ztyped_37, .ref a_measure, .int zmost1_37, .int zmost3_37, .int zmost5_37, .ref a_chosen, .ref a_ways, .int zspot_37, .int zreason_37, .int zplaces_37, .ref a_owners, .ref a_ranks, .ref a_sets, .ref a_toldAt, .ref a_line])), (a_s, .inl (cI, 37, .inl q45.2)), (a_measure, .inl (cI, 12, .inl zmeasure_37)), (a_chosen, .inl (cI, 12, .inl zchosen_37)), (a_ways, .inl (cI, 12, .inl zways_37))] → va_S A s.heap H locs → W p l e (rmm 4 98) s m args below meth c H locs 0 0 Q (F0 m 177 ls [])) → ∀ (ls : Array Slot) (H : Heap) (locs : List Loc), lv_has ls 8 [(0, .ref a0), (1, .int x1_37), (3, .int x3_37), (4, .int x4_37), (5, .int x5_37)] → va_P D vwCl [(a0, .inr (3, [.ref a_s, .ref a_past, .ref a_kept, .int zisKept_37, .int zpasts_37, .ref a_text, .int ztyped_37, .ref a_measure, .int zmost1_37, .int zmost3_37, .int zmost5_37, .ref a_chosen, .ref a_ways, .int zspot_37, .int zreason_37, .int zplaces_37, .ref a_owners, .ref a_ranks, .ref a_sets, .ref a_toldAt, .ref a_line])), (a_s, .inl (cI, 37, .inl zs_37)), (a_measure, .inl (cI, 12, .inl zmeasure_37)), (a_chosen, .inl (cI, 12, .inl zchosen_37)), (a_ways, .inl (cI, 12, .inl zways_37))] H → va_D A [(a0, .inr (3, [.ref a_s, .ref a_past, .ref a_kept, .int zisKept_37, .int zpasts_37, .ref a_text, .int ztyped_37, .ref a_measure, .int zmost1_37, .int zmost3_37, .int zmost5_37, .ref a_chosen, .ref a_ways, .int zspot_37, .int zreason_37, .int zplaces_37, .ref a_owners, .ref a_ranks, .ref a_sets, .ref a_toldAt, .ref a_line])), (a_s, .inl (cI, 37, .inl zs_37)), (a_measure, .inl (cI, 12, .inl zmeasure_37)), (a_chosen, .inl (cI, 12, .inl zchosen_37)), (a_ways, .inl (cI, 12, .inl zways_37))] → va_S A s.heap H locs → W p l e (rmm 4 98) s m args below meth c H locs 0 0 Q (F0 m 37 ls []) := by
        intro x1_37 x3_37 zisKept_37 zpasts_37 ztyped_37 zmeasure_37 zmost1_37 zmost3_37 zmost5_37 zchosen_37 zways_37 zspot_37 zreason_37 zplaces_37 n_37
        induction n_37 with
        | zero => intro x4_37 x5_37 zs_37 q45 h; exact no_s h
        | succ n_37 ih_37 =>
          intro x4_37 x5_37 zs_37 q45 h J_37 ls H locs hl hP hD hS
          rw [f_X4_proves_L37] at h
          refine lv_iload hx hb dX4_proves_37 (lv_at hl 4 rfl) ?_
          refine lv_aload_n hx hb dX4_proves_39 rfl (lv_at hl 0 rfl) ?_
          refine va_get (D := D) (ci := 3) (v := .ref a_s) (C := RX4) (T := TX4) (N := 21) hx hb hts inG4 hown hK hP 0 rfl rfl 0 (by decide) (hts _ wd2_152) (fun _ h9 => h9) rfl dX4_proves_40 ?_
          refine lv_iconst (v := 0) hx hb dX4_proves_43 (by decide) ?_
          obtain ⟨g12, h⟩ := chk_s h
          refine va_iald hx hb hK hP 1 0 rfl rfl (gi_in g12) dX4_proves_44 ?_
          refine lv_icmp_ge (tgt := 177) hx hb dX4_proves_45 (by decide) (fun c13 => ?_) (fun c13 => ?_)
          · have h := itT h c13
            obtain rfl := Option.some.inj h
            exact J_37 _ _ _ (lv_sub hl [0, 1, 2, 3] rfl) hP hD hS
          · have h := itF h c13
            refine lv_iload_n hx hb dX4_proves_48 rfl (lv_at hl 2 rfl) ?_
            refine lv_iload hx hb dX4_proves_49 (lv_at hl 4 rfl) ?_
            refine lv_ishr hx hb dX4_proves_51 ?_
            refine lv_iconst (v := 1) hx hb dX4_proves_52 (by decide) ?_
            refine lv_iand hx hb dX4_proves_53 ?_
            refine lv_iconst (v := 1) hx hb dX4_proves_54 (by decide) ?_
            obtain ⟨q15, hb44, h⟩ := bd h
            have J16 : ∀ (ls : Array Slot) (H : Heap) (locs : List Loc), lv_has ls 8 [(0, .ref a0), (1, .int x1_37), (3, .int x3_37), (4, .int x4_37), (5, .int x5_37)] → va_P D vwCl [(a0, .inr (3, [.ref a_s, .ref a_past, .ref a_kept, .int zisKept_37, .int zpasts_37, .ref a_text, .int ztyped_37, .ref a_measure, .int zmost1_37, .int zmost3_37, .int zmost5_37, .ref a_chosen, .ref a_ways, .int zspot_37, .int zreason_37, .int zplaces_37, .ref a_owners, .ref a_ranks, .ref a_sets, .ref a_toldAt, .ref a_line])), (a_s, .inl (cI, 37, .inl zs_37)), (a_measure, .inl (cI, 12, .inl zmeasure_37)), (a_chosen, .inl (cI, 12, .inl zchosen_37)), (a_ways, .inl (cI, 12, .inl zways_37))] H → va_D A [(a0, .inr (3, [.ref a_s, .ref a_past, .ref a_kept, .int zisKept_37, .int zpasts_37, .ref a_text, .int ztyped_37, .ref a_measure, .int zmost1_37, .int zmost3_37, .int zmost5_37, .ref a_chosen, .ref a_ways, .int zspot_37, .int zreason_37, .int zplaces_37, .ref a_owners, .ref a_ranks, .ref a_sets, .ref a_toldAt, .ref a_line])), (a_s, .inl (cI, 37, .inl zs_37)), (a_measure, .inl (cI, 12, .inl zmeasure_37)), (a_chosen, .inl (cI, 12, .inl zchosen_37)), (a_ways, .inl (cI, 12, .inl zways_37))] → va_S A s.heap H locs → W p l e (rmm 4 98) s m args below meth c H locs 0 0 Q (F0 m 63 ls [.int q15]) := by
              intro ls H locs hl hP hD hS
              refine lv_istore (lv' := [(6, .int q15), (0, .ref a0), (1, .int x1_37), (3, .int x3_37), (4, .int x4_37), (5, .int x5_37)]) hx hb dX4_proves_63 hl (by decide) rfl (fun ls hl => ?_)
              refine lv_iload hx hb dX4_proves_65 (lv_at hl 0 rfl) ?_
              obtain ⟨q19, hb43, h⟩ := bd h
              have J20 : ∀ (ls : Array Slot) (H : Heap) (locs : List Loc), lv_has ls 8 [(0, .ref a0), (1, .int x1_37), (3, .int x3_37), (4, .int x4_37), (5, .int x5_37), (6, .int q15)] → va_P D vwCl [(a0, .inr (3, [.ref a_s, .ref a_past, .ref a_kept, .int zisKept_37, .int zpasts_37, .ref a_text, .int ztyped_37, .ref a_measure, .int zmost1_37, .int zmost3_37, .int zmost5_37, .ref a_chosen, .ref a_ways, .int zspot_37, .int zreason_37, .int zplaces_37, .ref a_owners, .ref a_ranks, .ref a_sets, .ref a_toldAt, .ref a_line])), (a_s, .inl (cI, 37, .inl zs_37)), (a_measure, .inl (cI, 12, .inl zmeasure_37)), (a_chosen, .inl (cI, 12, .inl zchosen_37)), (a_ways, .inl (cI, 12, .inl zways_37))] H → va_D A [(a0, .inr (3, [.ref a_s, .ref a_past, .ref a_kept, .int zisKept_37, .int zpasts_37, .ref a_text, .int ztyped_37, .ref a_measure, .int zmost1_37, .int zmost3_37, .int zmost5_37, .ref a_chosen, .ref a_ways, .int zspot_37, .int zreason_37, .int zplaces_37, .ref a_owners, .ref a_ranks, .ref a_sets, .ref a_toldAt, .ref a_line])), (a_s, .inl (cI, 37, .inl zs_37)), (a_measure, .inl (cI, 12, .inl zmeasure_37)), (a_chosen, .inl (cI, 12, .inl zchosen_37)), (a_ways, .inl (cI, 12, .inl zways_37))] → va_S A s.heap H locs → W p l e (rmm 4 98) s m args below meth c H locs 0 0 Q (F0 m 88 ls [.int q19]) := by
                intro ls H locs hl hP hD hS
                refine lv_istore (lv' := [(7, .int q19), (0, .ref a0), (1, .int x1_37), (3, .int x3_37), (4, .int x4_37), (5, .int x5_37), (6, .int q15)]) hx hb dX4_proves_88 hl (by decide) rfl (fun ls hl => ?_)
                refine lv_aload_n hx hb dX4_proves_90 rfl (lv_at hl 1 rfl) ?_
                refine va_get (D := D) (ci := 3) (v := .ref a_s) (C := RX4) (T := TX4) (N := 21) hx hb hts inG4 hown hK hP 0 rfl rfl 0 (by decide) (hts _ wd2_152) (fun _ h9 => h9) rfl dX4_proves_91 ?_
                refine lv_bipush (v := 25) hx hb dX4_proves_94 (by decide) ?_
                refine lv_iload hx hb dX4_proves_96 (lv_at hl 5 rfl) ?_
                refine lv_iadd hx hb dX4_proves_98 ?_
                refine lv_iload hx hb dX4_proves_99 (lv_at hl 0 rfl) ?_
                obtain ⟨q25, hb42, h⟩ := bd h
                have J26 : ∀ (ls : Array Slot) (H : Heap) (locs : List Loc), lv_has ls 8 [(0, .ref a0), (1, .int x1_37), (3, .int x3_37), (4, .int x4_37), (5, .int x5_37), (6, .int q15)] → va_P D vwCl [(a0, .inr (3, [.ref a_s, .ref a_past, .ref a_kept, .int zisKept_37, .int zpasts_37, .ref a_text, .int ztyped_37, .ref a_measure, .int zmost1_37, .int zmost3_37, .int zmost5_37, .ref a_chosen, .ref a_ways, .int zspot_37, .int zreason_37, .int zplaces_37, .ref a_owners, .ref a_ranks, .ref a_sets, .ref a_toldAt, .ref a_line])), (a_s, .inl (cI, 37, .inl zs_37)), (a_measure, .inl (cI, 12, .inl zmeasure_37)), (a_chosen, .inl (cI, 12, .inl zchosen_37)), (a_ways, .inl (cI, 12, .inl zways_37))] H → va_D A [(a0, .inr (3, [.ref a_s, .ref a_past, .ref a_kept, .int zisKept_37, .int zpasts_37, .ref a_text, .int ztyped_37, .ref a_measure, .int zmost1_37, .int zmost3_37, .int zmost5_37, .ref a_chosen, .ref a_ways, .int zspot_37, .int zreason_37, .int zplaces_37, .ref a_owners, .ref a_ranks, .ref a_sets, .ref a_toldAt, .ref a_line])), (a_s, .inl (cI, 37, .inl zs_37)), (a_measure, .inl (cI, 12, .inl zmeasure_37)), (a_chosen, .inl (cI, 12, .inl zchosen_37)), (a_ways, .inl (cI, 12, .inl zways_37))] → va_S A s.heap H locs → W p l e (rmm 4 98) s m args below meth c H locs 0 0 Q (F0 m 136 ls [.int q25, .int (25 + x5_37), .ref a_s]) := by
                  intro ls H locs hl hP hD hS
                  obtain ⟨g33, h⟩ := chk_s h
                  refine va_iast hx hb hK hP hD hS 1 0 rfl rfl (gi_in g33) dX4_proves_136 (fun H locs hP hD hS => ?_)
                  have hP : va_P D vwCl [(a0, .inr (3, [.ref a_s, .ref a_past, .ref a_kept, .int zisKept_37, .int zpasts_37, .ref a_text, .int ztyped_37, .ref a_measure, .int zmost1_37, .int zmost3_37, .int zmost5_37, .ref a_chosen, .ref a_ways, .int zspot_37, .int zreason_37, .int zplaces_37, .ref a_owners, .ref a_ranks, .ref a_sets, .ref a_toldAt, .ref a_line])), (a_s, .inl (cI, 37, .inl (upd zs_37 (Int32.toNatClampNeg (25 + x5_37)) q25))), (a_measure, .inl (cI, 12, .inl zmeasure_37)), (a_chosen, .inl (cI, 12, .inl zchosen_37)), (a_ways, .inl (cI, 12, .inl zways_37))] H := hP
                  have hD : va_D A [(a0, .inr (3, [.ref a_s, .ref a_past, .ref a_kept, .int zisKept_37, .int zpasts_37, .ref a_text, .int ztyped_37, .ref a_measure, .int zmost1_37, .int zmost3_37, .int zmost5_37, .ref a_chosen, .ref a_ways, .int zspot_37, .int zreason_37, .int zplaces_37, .ref a_owners, .ref a_ranks, .ref a_sets, .ref a_toldAt, .ref a_line])), (a_s, .inl (cI, 37, .inl (upd zs_37 (Int32.toNatClampNeg (25 + x5_37)) q25))), (a_measure, .inl (cI, 12, .inl zmeasure_37)), (a_chosen, .inl (cI, 12, .inl zchosen_37)), (a_ways, .inl (cI, 12, .inl zways_37))] := hD
                  refine lv_iload hx hb dX4_proves_137 (lv_at hl 3 rfl) ?_
                  obtain ⟨q35, hb41, h⟩ := bd h
                  have J36 : ∀ (ls : Array Slot) (H : Heap) (locs : List Loc), lv_has ls 8 [(0, .ref a0), (1, .int x1_37), (3, .int x3_37), (5, .int x5_37)] → va_P D vwCl [(a0, .inr (3, [.ref a_s, .ref a_past, .ref a_kept, .int zisKept_37, .int zpasts_37, .ref a_text, .int ztyped_37, .ref a_measure, .int zmost1_37, .int zmost3_37, .int zmost5_37, .ref a_chosen, .ref a_ways, .int zspot_37, .int zreason_37, .int zplaces_37, .ref a_owners, .ref a_ranks, .ref a_sets, .ref a_toldAt, .ref a_line])), (a_s, .inl (cI, 37, .inl (upd zs_37 (Int32.toNatClampNeg (25 + x5_37)) q25))), (a_measure, .inl (cI, 12, .inl zmeasure_37)), (a_chosen, .inl (cI, 12, .inl zchosen_37)), (a_ways, .inl (cI, 12, .inl zways_37))] H → va_D A [(a0, .inr (3, [.ref a_s, .ref a_past, .ref a_kept, .int zisKept_37, .int zpasts_37, .ref a_text, .int ztyped_37, .ref a_measure, .int zmost1_37, .int zmost3_37, .int zmost5_37, .ref a_chosen, .ref a_ways, .int zspot_37, .int zreason_37, .int zplaces_37, .ref a_owners, .ref a_ranks, .ref a_sets, .ref a_toldAt, .ref a_line])), (a_s, .inl (cI, 37, .inl (upd zs_37 (Int32.toNatClampNeg (25 + x5_37)) q25))), (a_measure, .inl (cI, 12, .inl zmeasure_37)), (a_chosen, .inl (cI, 12, .inl zchosen_37)), (a_ways, .inl (cI, 12, .inl zways_37))] → va_S A s.heap H locs → W p l e (rmm 4 98) s m args below meth c H locs 0 0 Q (F0 m 169 ls [.int q35]) := by
                    intro ls H locs hl hP hD hS
                    refine lv_istore (lv' := [(4, .int q35), (0, .ref a0), (1, .int x1_37), (3, .int x3_37), (5, .int x5_37)]) hx hb dX4_proves_169 hl (by decide) rfl (fun ls hl => ?_)
                    refine lv_iinc (v := x5_37 + 1) (lv' := [(5, .int (x5_37 + 1)), (4, .int q35), (0, .ref a0), (1, .int x1_37), (3, .int x3_37)]) hx hb dX4_proves_171 hl (k := 4) rfl rfl (by decide) rfl (fun ls hl => ?_)
                    refine lv_goto (tgt := 37) hx hb dX4_proves_174 (by decide) ?_
                    exact ih_37 q35 (x5_37 + 1) (upd zs_37 (Int32.toNatClampNeg (25 + x5_37)) q25) _ h J_37 _ _ _ (lv_sub hl [2, 3, 4, 1, 0] rfl) hP hD hS
                  clear h
                  have h := hb41
                  clear hb41
                  refine lv_if_eq (tgt := 168) hx hb dX4_proves_139 (by decide) (fun c34 => ?_) (fun c34 => ?_)
                  · have h := itT h c34
                    refine lv_iconst (v := 0) hx hb dX4_proves_168 (by decide) ?_
                    obtain rfl := Option.some.inj h
                    exact J36 _ _ _ (lv_sub hl [0, 1, 2, 4] rfl) hP hD hS
                  · have h := itF h c34
                    refine lv_iload hx hb dX4_proves_142 (lv_at hl 5 rfl) ?_
                    refine lv_if_eq (tgt := 164) hx hb dX4_proves_144 (by decide) (fun c38 => ?_) (fun c38 => ?_)
                    · have h := itT h c38
                      refine lv_iconst (v := 1) hx hb dX4_proves_164 (by decide) ?_
                      refine lv_goto (tgt := 169) hx hb dX4_proves_165 (by decide) ?_
                      obtain rfl := Option.some.inj h
                      exact J36 _ _ _ (lv_sub hl [0, 1, 2, 4] rfl) hP hD hS
                    · have h := itF h c38
                      refine lv_aload_n hx hb dX4_proves_147 rfl (lv_at hl 0 rfl) ?_
                      refine va_get (D := D) (ci := 3) (v := .ref a_s) (C := RX4) (T := TX4) (N := 21) hx hb hts inG4 hown hK hP 0 rfl rfl 0 (by decide) (hts _ wd2_152) (fun _ h9 => h9) rfl dX4_proves_148 ?_
                      refine lv_bipush (v := 25) hx hb dX4_proves_151 (by decide) ?_
                      refine lv_iload hx hb dX4_proves_153 (lv_at hl 4 rfl) ?_
                      refine lv_iadd hx hb dX4_proves_155 ?_
                      obtain ⟨g39, h⟩ := chk_s h
                      refine va_iald hx hb hK hP 1 0 rfl rfl (gi_in g39) dX4_proves_156 ?_
                      refine lv_iload_n hx hb dX4_proves_157 rfl (lv_at hl 2 rfl) ?_
                      refine lv_iconst (v := (-1)) hx hb dX4_proves_158 (by decide) ?_
                      refine lv_ixor hx hb dX4_proves_159 ?_
                      refine lv_iand hx hb dX4_proves_160 ?_
                      refine lv_if_ne (tgt := 168) hx hb dX4_proves_161 (by decide) (fun c40 => ?_) (fun c40 => ?_)
                      · have h := itF h c40
                        refine lv_iconst (v := 0) hx hb dX4_proves_168 (by decide) ?_
                        obtain rfl := Option.some.inj h
                        exact J36 _ _ _ (lv_sub hl [0, 1, 2, 4] rfl) hP hD hS
                      · have h := itT h c40
                        refine lv_iconst (v := 1) hx hb dX4_proves_164 (by decide) ?_
                        refine lv_goto (tgt := 169) hx hb dX4_proves_165 (by decide) ?_
                        obtain rfl := Option.some.inj h
                        exact J36 _ _ _ (lv_sub hl [0, 1, 2, 4] rfl) hP hD hS
                clear h
                have h := hb42
                clear hb42
                refine lv_if_eq (tgt := 126) hx hb dX4_proves_101 (by decide) (fun c24 => ?_) (fun c24 => ?_)
                · have h := itT h c24
                  refine lv_aload_n hx hb dX4_proves_126 rfl (lv_at hl 1 rfl) ?_
                  refine va_get (D := D) (ci := 3) (v := .ref a_s) (C := RX4) (T := TX4) (N := 21) hx hb hts inG4 hown hK hP 0 rfl rfl 0 (by decide) (hts _ wd2_152) (fun _ h9 => h9) rfl dX4_proves_127 ?_
                  refine lv_bipush (v := 25) hx hb dX4_proves_130 (by decide) ?_
                  refine lv_iload hx hb dX4_proves_132 (lv_at hl 5 rfl) ?_
                  refine lv_iadd hx hb dX4_proves_134 ?_
                  obtain ⟨g28, h⟩ := chk_s h
                  refine va_iald hx hb hK hP 1 0 rfl rfl (gi_in g28) dX4_proves_135 ?_
                  obtain rfl := Option.some.inj h
                  exact J26 _ _ _ (lv_sub hl [1, 2, 3, 4, 5, 6] rfl) hP hD hS
                · have h := itF h c24
                  refine lv_aload_n hx hb dX4_proves_104 rfl (lv_at hl 1 rfl) ?_
                  refine va_get (D := D) (ci := 3) (v := .ref a_chosen) (C := RX4) (T := TX4) (N := 21) hx hb hts inG4 hown hK hP 0 rfl rfl 11 (by decide) (hts _ wd2_163) (fun _ h9 => h9) rfl dX4_proves_105 ?_
                  refine lv_iload hx hb dX4_proves_108 (lv_at hl 5 rfl) ?_
                  obtain ⟨g29, h⟩ := chk_s h
                  refine va_iald hx hb hK hP 3 0 rfl rfl (gi_in g29) dX4_proves_110 ?_
                  refine lv_if_lt (tgt := 126) hx hb dX4_proves_111 (by decide) (fun c30 => ?_) (fun c30 => ?_)
                  · have h := itT h c30
                    refine lv_aload_n hx hb dX4_proves_126 rfl (lv_at hl 1 rfl) ?_
                    refine va_get (D := D) (ci := 3) (v := .ref a_s) (C := RX4) (T := TX4) (N := 21) hx hb hts inG4 hown hK hP 0 rfl rfl 0 (by decide) (hts _ wd2_152) (fun _ h9 => h9) rfl dX4_proves_127 ?_
                    refine lv_bipush (v := 25) hx hb dX4_proves_130 (by decide) ?_
                    refine lv_iload hx hb dX4_proves_132 (lv_at hl 5 rfl) ?_
                    refine lv_iadd hx hb dX4_proves_134 ?_
                    obtain ⟨g31, h⟩ := chk_s h
                    refine va_iald hx hb hK hP 1 0 rfl rfl (gi_in g31) dX4_proves_135 ?_
                    obtain rfl := Option.some.inj h
                    exact J26 _ _ _ (lv_sub hl [1, 2, 3, 4, 5, 6] rfl) hP hD hS
                  · have h := itF h c30
                    refine lv_iconst (v := 1) hx hb dX4_proves_114 (by decide) ?_
                    refine lv_aload_n hx hb dX4_proves_115 rfl (lv_at hl 1 rfl) ?_
                    refine va_get (D := D) (ci := 3) (v := .ref a_chosen) (C := RX4) (T := TX4) (N := 21) hx hb hts inG4 hown hK hP 0 rfl rfl 11 (by decide) (hts _ wd2_163) (fun _ h9 => h9) rfl dX4_proves_116 ?_
                    refine lv_iload hx hb dX4_proves_119 (lv_at hl 5 rfl) ?_
                    obtain ⟨g32, h⟩ := chk_s h
                    refine va_iald hx hb hK hP 3 0 rfl rfl (gi_in g32) dX4_proves_121 ?_
                    refine lv_ishl hx hb dX4_proves_122 ?_
                    refine lv_goto (tgt := 136) hx hb dX4_proves_123 (by decide) ?_
                    obtain rfl := Option.some.inj h
                    exact J26 _ _ _ (lv_sub hl [1, 2, 3, 4, 5, 6] rfl) hP hD hS
              clear h
              have h := hb43
              clear hb43
              refine lv_if_eq (tgt := 87) hx hb dX4_proves_67 (by decide) (fun c18 => ?_) (fun c18 => ?_)
              · have h := itT h c18
                refine lv_iconst (v := 0) hx hb dX4_proves_87 (by decide) ?_
                obtain rfl := Option.some.inj h
                exact J20 _ _ _ (lv_sub hl [1, 2, 3, 4, 5, 0] rfl) hP hD hS
              · have h := itF h c18
                refine lv_aload_n hx hb dX4_proves_70 rfl (lv_at hl 1 rfl) ?_
                refine va_get (D := D) (ci := 3) (v := .ref a_s) (C := RX4) (T := TX4) (N := 21) hx hb hts inG4 hown hK hP 0 rfl rfl 0 (by decide) (hts _ wd2_152) (fun _ h9 => h9) rfl dX4_proves_71 ?_
                refine lv_iconst (v := 1) hx hb dX4_proves_74 (by decide) ?_
                refine lv_iload hx hb dX4_proves_75 (lv_at hl 5 rfl) ?_
                refine lv_iadd hx hb dX4_proves_77 ?_
                obtain ⟨g22, h⟩ := chk_s h
                refine va_iald hx hb hK hP 1 0 rfl rfl (gi_in g22) dX4_proves_78 ?_
                refine lv_iload_n hx hb dX4_proves_79 rfl (lv_at hl 2 rfl) ?_
                refine lv_icmp_ne (tgt := 87) hx hb dX4_proves_80 (by decide) (fun c23 => ?_) (fun c23 => ?_)
                · have h := itF h c23
                  refine lv_iconst (v := 0) hx hb dX4_proves_87 (by decide) ?_
                  obtain rfl := Option.some.inj h
                  exact J20 _ _ _ (lv_sub hl [1, 2, 3, 4, 5, 0] rfl) hP hD hS
                · have h := itT h c23
                  refine lv_iconst (v := 1) hx hb dX4_proves_83 (by decide) ?_
                  refine lv_goto (tgt := 88) hx hb dX4_proves_84 (by decide) ?_
                  obtain rfl := Option.some.inj h
                  exact J20 _ _ _ (lv_sub hl [1, 2, 3, 4, 5, 0] rfl) hP hD hS
            clear h
            have h := hb44
            clear hb44
            refine lv_icmp_ne (tgt := 62) hx hb dX4_proves_55 (by decide) (fun c14 => ?_) (fun c14 => ?_)
            · have h := itF h c14
              refine lv_iconst (v := 0) hx hb dX4_proves_62 (by decide) ?_
              obtain rfl := Option.some.inj h
              exact J16 _ _ _ (lv_sub hl [0, 1, 2, 3, 4] rfl) hP hD hS
            · have h := itT h c14
              refine lv_iconst (v := 1) hx hb dX4_proves_58 (by decide) ?_
              refine lv_goto (tgt := 63) hx hb dX4_proves_59 (by decide) ?_
              obtain rfl := Option.some.inj h
              exact J16 _ _ _ (lv_sub hl [0, 1, 2, 3, 4] rfl) hP hD hS
      obtain ⟨q46, hb65, h⟩ := bd h
      refine L_37 x1 q7 zisKept zpasts ztyped q4.2.2.1 q4.2.2.2.1 q4.2.2.2.2.1 q4.2.2.2.2.2.1 q4.2.2.2.2.2.2.1 q4.2.2.2.2.2.2.2 zspot zreason zplaces N 1 0 q4.2.1 q46 hb65 ?_ _ _ _ (lv_sub hl [3, 4, 2, 1, 0] rfl) hP hD hS
      intro ls H locs hl hP hD hS
      refine lv_aload_n hx hb dX4_proves_177 rfl (lv_at hl 0 rfl) ?_
      obtain ⟨q47, hq48, h⟩ := bd h
      refine kvI (ws' := [(a0, .inr (3, [.ref a_s, .ref a_past, .ref a_kept, .int zisKept, .int zpasts, .ref a_text, .int ztyped, .ref a_measure, .int q47.2.2.1, .int q47.2.2.2.1, .int q47.2.2.2.2, .ref a_chosen, .ref a_ways, .int zspot, .int zreason, .int zplaces, .ref a_owners, .ref a_ranks, .ref a_sets, .ref a_toldAt, .ref a_line])), (a_s, .inl (cI, 37, .inl q46.2)), (a_measure, .inl (cI, 12, .inl q47.2.1)), (a_chosen, .inl (cI, 12, .inl q4.2.2.2.2.2.2.1)), (a_ways, .inl (cI, 12, .inl q4.2.2.2.2.2.2.2))]) (wr := [(a_chosen, .inl (cI, 12, .inl q4.2.2.2.2.2.2.1)), (a_ways, .inl (cI, 12, .inl q4.2.2.2.2.2.2.2))]) (As := []) F (c_X4_won l D cI cC cH a0 a_s a_past a_kept a_text a_measure a_chosen a_ways a_owners a_ranks a_sets a_toldAt a_line N q46.2 zisKept zpasts ztyped q4.2.2.1 q4.2.2.2.1 q4.2.2.2.2.1 q4.2.2.2.2.2.1 zspot zreason zplaces q47 hq48) yfX4_won ⟨wd3_22, wd3_24, wdp_23⟩ hP hD hS [0, 1, 2] [3, 4] [2, 3, 4, 0, 1] rfl rfl (by decide) (by decide) (by decide) rfl (by decide) 0 3 rfl rfl rfl ⟨Nat.le_of_ble_eq_true rfl, Nat.le_of_ble_eq_true rfl, Nat.zero_le _, Nat.zero_le _⟩ rfl hl rfl (Nat.le_of_ble_eq_true rfl) dX4_proves_178 (fun H locs hP hD hS => ?_)
      refine lv_istore (lv' := [(5, .int q47.1), (0, .ref a0), (1, .int x1), (3, .int q7), (4, .int q46.1)]) hx hb dX4_proves_181 hl (by decide) rfl (fun ls hl => ?_)
      refine lv_iload_n hx hb dX4_proves_183 rfl (lv_at hl 2 rfl) ?_
      obtain ⟨q50, hb64, h⟩ := bd h
      have J51 : ∀ (ls : Array Slot) (H : Heap) (locs : List Loc), lv_has ls 8 [(0, .ref a0), (3, .int q7), (4, .int q46.1)] → va_P D vwCl [(a0, .inr (3, [.ref a_s, .ref a_past, .ref a_kept, .int zisKept, .int zpasts, .ref a_text, .int ztyped, .ref a_measure, .int q47.2.2.1, .int q47.2.2.2.1, .int q47.2.2.2.2, .ref a_chosen, .ref a_ways, .int zspot, .int zreason, .int zplaces, .ref a_owners, .ref a_ranks, .ref a_sets, .ref a_toldAt, .ref a_line])), (a_s, .inl (cI, 37, .inl q46.2)), (a_measure, .inl (cI, 12, .inl q47.2.1)), (a_chosen, .inl (cI, 12, .inl q4.2.2.2.2.2.2.1)), (a_ways, .inl (cI, 12, .inl q4.2.2.2.2.2.2.2))] H → va_D A [(a0, .inr (3, [.ref a_s, .ref a_past, .ref a_kept, .int zisKept, .int zpasts, .ref a_text, .int ztyped, .ref a_measure, .int q47.2.2.1, .int q47.2.2.2.1, .int q47.2.2.2.2, .ref a_chosen, .ref a_ways, .int zspot, .int zreason, .int zplaces, .ref a_owners, .ref a_ranks, .ref a_sets, .ref a_toldAt, .ref a_line])), (a_s, .inl (cI, 37, .inl q46.2)), (a_measure, .inl (cI, 12, .inl q47.2.1)), (a_chosen, .inl (cI, 12, .inl q4.2.2.2.2.2.2.1)), (a_ways, .inl (cI, 12, .inl q4.2.2.2.2.2.2.2))] → va_S A s.heap H locs → W p l e (rmm 4 98) s m args below meth c H locs 0 0 Q (F0 m 199 ls [.int q50]) := by
        intro ls H locs hl hP hD hS
        refine lv_istore (lv' := [(6, .int q50), (0, .ref a0), (3, .int q7), (4, .int q46.1)]) hx hb dX4_proves_199 hl (by decide) rfl (fun ls hl => ?_)
        refine lv_iconst (v := 0) hx hb dX4_proves_201 (by decide) ?_
        refine lv_istore (lv' := [(7, .int 0), (6, .int q50), (0, .ref a0), (3, .int q7), (4, .int q46.1)]) hx hb dX4_proves_202 hl (by decide) rfl (fun ls hl => ?_)
        have L_204 : ∀ (x3_204 : Int32) (x4_204 : Int32) (x6_204 : Int32) (zisKept_204 : Int32) (zpasts_204 : Int32) (ztyped_204 : Int32) (zmeasure_204 : Nat → Int32) (zmost1_204 : Int32) (zmost3_204 : Int32) (zmost5_204 : Int32) (zchosen_204 : Nat → Int32) (zways_204 : Nat → Int32) (zspot_204 : Int32) (zreason_204 : Int32) (zplaces_204 : Int32), ∀ (n_204 : Nat) (x7_204 : Int32) (zs_204 : Nat → Int32) (q59 : ((Nat → Int32))), f_X4_proves_L204 N zways_204 n_204 x7_204 zs_204 = some q59 → (∀ (ls : Array Slot) (H : Heap) (locs : List Loc), lv_has ls 8 [(3, .int x3_204), (4, .int x4_204), (6, .int x6_204)] → va_P D vwCl [(a0, .inr (3, [.ref a_s, .ref a_past, .ref a_kept, .int zisKept_204, .int zpasts_204, .ref a_text, .int ztyped_204, .ref a_measure, .int zmost1_204, .int zmost3_204, .int zmost5_204, .ref a_chosen, .ref a_ways, .int zspot_204, .int zreason_204, .int zplaces_204, .ref a_owners, .ref a_ranks, .ref a_sets, .ref a_toldAt, .ref a_line])), (a_s, .inl (cI, 37, .inl q59)), (a_measure, .inl (cI, 12, .inl zmeasure_204)), (a_chosen, .inl (cI, 12, .inl zchosen_204)), (a_ways, .inl (cI, 12, .inl zways_204))] H → va_D A [(a0, .inr (3, [.ref a_s, .ref a_past, .ref a_kept, .int zisKept_204, .int zpasts_204, .ref a_text, .int ztyped_204, .ref a_measure, .int zmost1_204, .int zmost3_204, .int zmost5_204, .ref a_chosen, .ref a_ways, .int zspot_204, .int zreason_204, .int zplaces_204, .ref a_owners, .ref a_ranks, .ref a_sets, .ref a_toldAt, .ref a_line])), (a_s, .inl (cI, 37, .inl q59)), (a_measure, .inl (cI, 12, .inl zmeasure_204)), (a_chosen, .inl (cI, 12, .inl zchosen_204)), (a_ways, .inl (cI, 12, .inl zways_204))] → va_S A s.heap H locs → W p l e (rmm 4 98) s m args below meth c H locs 0 0 Q (F0 m 238 ls [])) → ∀ (ls : Array Slot) (H : Heap) (locs : List Loc), lv_has ls 8 [(0, .ref a0), (3, .int x3_204), (4, .int x4_204), (6, .int x6_204), (7, .int x7_204)] → va_P D vwCl [(a0, .inr (3, [.ref a_s, .ref a_past, .ref a_kept, .int zisKept_204, .int zpasts_204, .ref a_text, .int ztyped_204, .ref a_measure, .int zmost1_204, .int zmost3_204, .int zmost5_204, .ref a_chosen, .ref a_ways, .int zspot_204, .int zreason_204, .int zplaces_204, .ref a_owners, .ref a_ranks, .ref a_sets, .ref a_toldAt, .ref a_line])), (a_s, .inl (cI, 37, .inl zs_204)), (a_measure, .inl (cI, 12, .inl zmeasure_204)), (a_chosen, .inl (cI, 12, .inl zchosen_204)), (a_ways, .inl (cI, 12, .inl zways_204))] H → va_D A [(a0, .inr (3, [.ref a_s, .ref a_past, .ref a_kept, .int zisKept_204, .int zpasts_204, .ref a_text, .int ztyped_204, .ref a_measure, .int zmost1_204, .int zmost3_204, .int zmost5_204, .ref a_chosen, .ref a_ways, .int zspot_204, .int zreason_204, .int zplaces_204, .ref a_owners, .ref a_ranks, .ref a_sets, .ref a_toldAt, .ref a_line])), (a_s, .inl (cI, 37, .inl zs_204)), (a_measure, .inl (cI, 12, .inl zmeasure_204)), (a_chosen, .inl (cI, 12, .inl zchosen_204)), (a_ways, .inl (cI, 12, .inl zways_204))] → va_S A s.heap H locs → W p l e (rmm 4 98) s m args below meth c H locs 0 0 Q (F0 m 204 ls []) := by
          intro x3_204 x4_204 x6_204 zisKept_204 zpasts_204 ztyped_204 zmeasure_204 zmost1_204 zmost3_204 zmost5_204 zchosen_204 zways_204 zspot_204 zreason_204 zplaces_204 n_204
          induction n_204 with
          | zero => intro x7_204 zs_204 q59 h; exact no_s h
          | succ n_204 ih_204 =>
            intro x7_204 zs_204 q59 h J_204 ls H locs hl hP hD hS
            rw [f_X4_proves_L204] at h
            refine lv_iload hx hb dX4_proves_204 (lv_at hl 4 rfl) ?_
            refine lv_aload_n hx hb dX4_proves_206 rfl (lv_at hl 0 rfl) ?_
            refine va_get (D := D) (ci := 3) (v := .ref a_s) (C := RX4) (T := TX4) (N := 21) hx hb hts inG4 hown hK hP 0 rfl rfl 0 (by decide) (hts _ wd2_152) (fun _ h9 => h9) rfl dX4_proves_207 ?_
            refine lv_iconst (v := 0) hx hb dX4_proves_210 (by decide) ?_
            obtain ⟨g55, h⟩ := chk_s h
            refine va_iald hx hb hK hP 1 0 rfl rfl (gi_in g55) dX4_proves_211 ?_
            refine lv_icmp_ge (tgt := 238) hx hb dX4_proves_212 (by decide) (fun c56 => ?_) (fun c56 => ?_)
            · have h := itT h c56
              obtain rfl := Option.some.inj h
              exact J_204 _ _ _ (lv_sub hl [1, 2, 3] rfl) hP hD hS
            · have h := itF h c56
              refine lv_aload_n hx hb dX4_proves_215 rfl (lv_at hl 0 rfl) ?_
              refine va_get (D := D) (ci := 3) (v := .ref a_s) (C := RX4) (T := TX4) (N := 21) hx hb hts inG4 hown hK hP 0 rfl rfl 0 (by decide) (hts _ wd2_152) (fun _ h9 => h9) rfl dX4_proves_216 ?_
              refine lv_bipush (v := 25) hx hb dX4_proves_219 (by decide) ?_
              refine lv_iload hx hb dX4_proves_221 (lv_at hl 4 rfl) ?_
              refine lv_iadd hx hb dX4_proves_223 ?_
              refine lv_aload_n hx hb dX4_proves_224 rfl (lv_at hl 0 rfl) ?_
              refine va_get (D := D) (ci := 3) (v := .ref a_ways) (C := RX4) (T := TX4) (N := 21) hx hb hts inG4 hown hK hP 0 rfl rfl 12 (by decide) (hts _ wd2_164) (fun _ h9 => h9) rfl dX4_proves_225 ?_
              refine lv_iload hx hb dX4_proves_228 (lv_at hl 4 rfl) ?_
              obtain ⟨g57, h⟩ := chk_s h
              refine va_iald hx hb hK hP 4 0 rfl rfl (gi_in g57) dX4_proves_230 ?_
              obtain ⟨g58, h⟩ := chk_s h
              refine va_iast hx hb hK hP hD hS 1 0 rfl rfl (gi_in g58) dX4_proves_231 (fun H locs hP hD hS => ?_)
              have hP : va_P D vwCl [(a0, .inr (3, [.ref a_s, .ref a_past, .ref a_kept, .int zisKept_204, .int zpasts_204, .ref a_text, .int ztyped_204, .ref a_measure, .int zmost1_204, .int zmost3_204, .int zmost5_204, .ref a_chosen, .ref a_ways, .int zspot_204, .int zreason_204, .int zplaces_204, .ref a_owners, .ref a_ranks, .ref a_sets, .ref a_toldAt, .ref a_line])), (a_s, .inl (cI, 37, .inl (upd zs_204 (Int32.toNatClampNeg (25 + x7_204)) (zways_204 (Int32.toNatClampNeg x7_204))))), (a_measure, .inl (cI, 12, .inl zmeasure_204)), (a_chosen, .inl (cI, 12, .inl zchosen_204)), (a_ways, .inl (cI, 12, .inl zways_204))] H := hP
              have hD : va_D A [(a0, .inr (3, [.ref a_s, .ref a_past, .ref a_kept, .int zisKept_204, .int zpasts_204, .ref a_text, .int ztyped_204, .ref a_measure, .int zmost1_204, .int zmost3_204, .int zmost5_204, .ref a_chosen, .ref a_ways, .int zspot_204, .int zreason_204, .int zplaces_204, .ref a_owners, .ref a_ranks, .ref a_sets, .ref a_toldAt, .ref a_line])), (a_s, .inl (cI, 37, .inl (upd zs_204 (Int32.toNatClampNeg (25 + x7_204)) (zways_204 (Int32.toNatClampNeg x7_204))))), (a_measure, .inl (cI, 12, .inl zmeasure_204)), (a_chosen, .inl (cI, 12, .inl zchosen_204)), (a_ways, .inl (cI, 12, .inl zways_204))] := hD
              refine lv_iinc (v := x7_204 + 1) (lv' := [(7, .int (x7_204 + 1)), (0, .ref a0), (3, .int x3_204), (4, .int x4_204), (6, .int x6_204)]) hx hb dX4_proves_232 hl (k := 4) rfl rfl (by decide) rfl (fun ls hl => ?_)
              refine lv_goto (tgt := 204) hx hb dX4_proves_235 (by decide) ?_
              exact ih_204 (x7_204 + 1) (upd zs_204 (Int32.toNatClampNeg (25 + x7_204)) (zways_204 (Int32.toNatClampNeg x7_204))) _ h J_204 _ _ _ (lv_sub hl [1, 2, 3, 4, 0] rfl) hP hD hS
        obtain ⟨q60, hb63, h⟩ := bd h
        refine L_204 q7 q46.1 q50 zisKept zpasts ztyped q47.2.1 q47.2.2.1 q47.2.2.2.1 q47.2.2.2.2 q4.2.2.2.2.2.2.1 q4.2.2.2.2.2.2.2 zspot zreason zplaces N 0 q46.2 q60 hb63 ?_ _ _ _ (lv_sub hl [2, 3, 4, 1, 0] rfl) hP hD hS
        intro ls H locs hl hP hD hS
        refine lv_iload hx hb dX4_proves_238 (lv_at hl 1 rfl) ?_
        refine lv_if_eq (tgt := 256) hx hb dX4_proves_240 (by decide) (fun c61 => ?_) (fun c61 => ?_)
        · have h := itT h c61
          refine lv_iconst (v := 0) hx hb dX4_proves_256 (by decide) ?_
          obtain rfl := Option.some.inj h
          exact hret _ _ _ _ _ rfl hP hD hS dX4_proves_257
        · have h := itF h c61
          refine lv_iload_n hx hb dX4_proves_243 rfl (lv_at hl 0 rfl) ?_
          refine lv_iload hx hb dX4_proves_244 (lv_at hl 2 rfl) ?_
          refine lv_iconst (v := (-1)) hx hb dX4_proves_246 (by decide) ?_
          refine lv_ixor hx hb dX4_proves_247 ?_
          refine lv_iand hx hb dX4_proves_248 ?_
          refine lv_if_ne (tgt := 256) hx hb dX4_proves_249 (by decide) (fun c62 => ?_) (fun c62 => ?_)
          · have h := itF h c62
            refine lv_iconst (v := 0) hx hb dX4_proves_256 (by decide) ?_
            obtain rfl := Option.some.inj h
            exact hret _ _ _ _ _ rfl hP hD hS dX4_proves_257
          · have h := itT h c62
            refine lv_iconst (v := 1) hx hb dX4_proves_252 (by decide) ?_
            refine lv_goto (tgt := 257) hx hb dX4_proves_253 (by decide) ?_
            obtain rfl := Option.some.inj h
            exact hret _ _ _ _ _ rfl hP hD hS dX4_proves_257
      clear h
      have h := hb64
      clear hb64
      refine lv_if_ne (tgt := 192) hx hb dX4_proves_184 (by decide) (fun c49 => ?_) (fun c49 => ?_)
      · have h := itF h c49
        refine lv_aload_n hx hb dX4_proves_192 rfl (lv_at hl 1 rfl) ?_
        obtain ⟨q53, hq54, h⟩ := bd h
        refine kvI (ws' := [(a0, .inr (3, [.ref a_s, .ref a_past, .ref a_kept, .int zisKept, .int zpasts, .ref a_text, .int ztyped, .ref a_measure, .int q47.2.2.1, .int q47.2.2.2.1, .int q47.2.2.2.2, .ref a_chosen, .ref a_ways, .int zspot, .int zreason, .int zplaces, .ref a_owners, .ref a_ranks, .ref a_sets, .ref a_toldAt, .ref a_line])), (a_s, .inl (cI, 37, .inl q46.2)), (a_measure, .inl (cI, 12, .inl q47.2.1)), (a_chosen, .inl (cI, 12, .inl q4.2.2.2.2.2.2.1)), (a_ways, .inl (cI, 12, .inl q4.2.2.2.2.2.2.2))]) (wr := [(a_measure, .inl (cI, 12, .inl q47.2.1)), (a_chosen, .inl (cI, 12, .inl q4.2.2.2.2.2.2.1)), (a_ways, .inl (cI, 12, .inl q4.2.2.2.2.2.2.2))]) (As := []) F (c_X4_all l D cI cC cH a0 a_s a_past a_kept a_text a_measure a_chosen a_ways a_owners a_ranks a_sets a_toldAt a_line N q46.2 zisKept zpasts ztyped q47.2.2.1 q47.2.2.2.1 q47.2.2.2.2 zspot zreason zplaces q53 hq54) yfX4_all ⟨wd3_61, wd3_63, wdp_30⟩ hP hD hS [0, 1] [2, 3, 4] [3, 4, 0, 1, 2] rfl rfl (by decide) (by decide) (by decide) rfl (by decide) 0 3 rfl rfl rfl ⟨Nat.le_of_ble_eq_true rfl, Nat.le_of_ble_eq_true rfl, Nat.zero_le _, Nat.zero_le _⟩ rfl hl rfl (Nat.le_of_ble_eq_true rfl) dX4_proves_193 (fun H locs hP hD hS => ?_)
        refine lv_iload hx hb dX4_proves_196 (lv_at hl 0 rfl) ?_
        refine lv_isub hx hb dX4_proves_198 ?_
        obtain rfl := Option.some.inj h
        exact J51 _ _ _ (lv_sub hl [1, 3, 4] rfl) hP hD hS
      · have h := itT h c49
        refine lv_iload hx hb dX4_proves_187 (lv_at hl 0 rfl) ?_
        refine lv_goto (tgt := 199) hx hb dX4_proves_189 (by decide) ?_
        obtain rfl := Option.some.inj h
        exact J51 _ _ _ (lv_sub hl [1, 3, 4] rfl) hP hD hS
    clear h
    have h := hb66
    clear hb66
    refine lv_if_ne (tgt := 24) hx hb dX4_proves_17 (by decide) (fun c6 => ?_) (fun c6 => ?_)
    · have h := itF h c6
      refine lv_aload_n hx hb dX4_proves_24 rfl (lv_at hl 1 rfl) ?_
      obtain ⟨q10, hq11, h⟩ := bd h
      refine kvI (ws' := [(a0, .inr (3, [.ref a_s, .ref a_past, .ref a_kept, .int zisKept, .int zpasts, .ref a_text, .int ztyped, .ref a_measure, .int q4.2.2.2.1, .int q4.2.2.2.2.1, .int q4.2.2.2.2.2.1, .ref a_chosen, .ref a_ways, .int zspot, .int zreason, .int zplaces, .ref a_owners, .ref a_ranks, .ref a_sets, .ref a_toldAt, .ref a_line])), (a_s, .inl (cI, 37, .inl q4.2.1)), (a_measure, .inl (cI, 12, .inl q4.2.2.1)), (a_chosen, .inl (cI, 12, .inl q4.2.2.2.2.2.2.1)), (a_ways, .inl (cI, 12, .inl q4.2.2.2.2.2.2.2))]) (wr := [(a_measure, .inl (cI, 12, .inl q4.2.2.1)), (a_chosen, .inl (cI, 12, .inl q4.2.2.2.2.2.2.1)), (a_ways, .inl (cI, 12, .inl q4.2.2.2.2.2.2.2))]) (As := []) F (c_X4_all l D cI cC cH a0 a_s a_past a_kept a_text a_measure a_chosen a_ways a_owners a_ranks a_sets a_toldAt a_line N q4.2.1 zisKept zpasts ztyped q4.2.2.2.1 q4.2.2.2.2.1 q4.2.2.2.2.2.1 zspot zreason zplaces q10 hq11) yfX4_all ⟨wd3_61, wd3_63, wdp_30⟩ hP hD hS [0, 1] [2, 3, 4] [3, 4, 0, 1, 2] rfl rfl (by decide) (by decide) (by decide) rfl (by decide) 0 3 rfl rfl rfl ⟨Nat.le_of_ble_eq_true rfl, Nat.le_of_ble_eq_true rfl, Nat.zero_le _, Nat.zero_le _⟩ rfl hl rfl (Nat.le_of_ble_eq_true rfl) dX4_proves_25 (fun H locs hP hD hS => ?_)
      refine lv_iload_n hx hb dX4_proves_28 rfl (lv_at hl 0 rfl) ?_
      refine lv_isub hx hb dX4_proves_29 ?_
      obtain rfl := Option.some.inj h
      exact J8 _ _ _ (lv_sub hl [1, 2] rfl) hP hD hS
    · have h := itT h c6
      refine lv_iload_n hx hb dX4_proves_20 rfl (lv_at hl 0 rfl) ?_
      refine lv_goto (tgt := 30) hx hb dX4_proves_21 (by decide) ?_
      obtain rfl := Option.some.inj h
      exact J8 _ _ _ (lv_sub hl [1, 2] rfl) hP hD hS
  · have h := itT h c3
    refine lv_iconst (v := (-1)) hx hb dX4_proves_9 (by decide) ?_
    obtain rfl := Option.some.inj h
    exact hret _ _ _ _ _ rfl hP hD hS dX4_proves_10
def f_X4_only (N : Nat) (x1 : Int32) (x2 : Int32) (zs : Nat → Int32) (zmeasure : Nat → Int32) (zmost1 : Int32) (zmost3 : Int32) (zmost5 : Int32) : Option (Int32 × (Nat → Int32) × (Nat → Int32) × Int32 × Int32 × Int32) :=
    Option.bind (f_X4_isPlace N x1 zs) (fun q1 => if q1 = 0 then (some ((-1), zs, zmeasure, zmost1, zmost3, zmost5)) else (Option.bind (f_X4_isPlace N x2 zs) (fun q4 => if q4 = 0 then (some ((-1), zs, zmeasure, zmost1, zmost3, zmost5)) else (Option.bind (f_X4_hasWay N x1 x2 zs) (fun q7 => if q7 = 0 then (some ((-2), zs, zmeasure, zmost1, zmost3, zmost5)) else (chk (gi (25 + x1) 37) (chk (gi (25 + x1) 37) (Option.bind (f_X4_won N (upd zs (Int32.toNatClampNeg (25 + x1)) ((1 : Int32) <<< (x2 &&& 31))) zmeasure zmost1 zmost3 zmost5) (fun q12 => chk (gi (25 + x1) 37) (some (q12.1, upd (upd zs (Int32.toNatClampNeg (25 + x1)) ((1 : Int32) <<< (x2 &&& 31))) (Int32.toNatClampNeg (25 + x1)) (zs (Int32.toNatClampNeg (25 + x1))), q12.2.1, q12.2.2.1, q12.2.2.2.1, q12.2.2.2.2)))))))))))
set_option maxHeartbeats 4000000 in
set_option maxRecDepth 100000 in
theorem c_X4_only (l : Launch) (D : va_G) (cI cC cH : ClassId) (a0 : Nat) (a_s : Nat) (a_past : Nat) (a_kept : Nat) (a_text : Nat) (a_measure : Nat) (a_chosen : Nat) (a_ways : Nat) (a_owners : Nat) (a_ranks : Nat) (a_sets : Nat) (a_toldAt : Nat) (a_line : Nat) (N : Nat) (x1 : Int32) (x2 : Int32) (zs : Nat → Int32) (zisKept : Int32) (zpasts : Int32) (ztyped : Int32) (zmeasure : Nat → Int32) (zmost1 : Int32) (zmost3 : Int32) (zmost5 : Int32) (zspot : Int32) (zreason : Int32) (zplaces : Int32) (y : Int32 × (Nat → Int32) × (Nat → Int32) × Int32 × Int32 × Int32) (h : f_X4_only N x1 x2 zs zmeasure zmost1 zmost3 zmost5 = some y) : CTi l yX4_only cX4_only 5 (some .int) 3 74 D (tyL cI cC cH) [.ref a0, .int x1, .int x2] [(a0, .inr (3, [.ref a_s, .ref a_past, .ref a_kept, .int zisKept, .int zpasts, .ref a_text, .int ztyped, .ref a_measure, .int zmost1, .int zmost3, .int zmost5, .ref a_chosen, .ref a_ways, .int zspot, .int zreason, .int zplaces, .ref a_owners, .ref a_ranks, .ref a_sets, .ref a_toldAt, .ref a_line])), (a_s, .inl (cI, 37, .inl zs)), (a_measure, .inl (cI, 12, .inl zmeasure))] [(a0, .inr (3, [.ref a_s, .ref a_past, .ref a_kept, .int zisKept, .int zpasts, .ref a_text, .int ztyped, .ref a_measure, .int y.2.2.2.1, .int y.2.2.2.2.1, .int y.2.2.2.2.2, .ref a_chosen, .ref a_ways, .int zspot, .int zreason, .int zplaces, .ref a_owners, .ref a_ranks, .ref a_sets, .ref a_toldAt, .ref a_line])), (a_s, .inl (cI, 37, .inl y.2.1)), (a_measure, .inl (cI, 12, .inl y.2.2.1))] y.1 := by
  unfold f_X4_only at h
  refine ctI (by decide) (Nat.le_of_ble_eq_true rfl) ?_
  intro p e s m args below meth c A Q ls F hret hP hD hS hl
  have hx := F.1
  have hb := F.2.1
  have hown : s.vm.findClass RX4 = some m.cls := F.2.2.2.1
  have hts := F.2.2.2.2.1
  have hN := F.2.2.2.2.2.1
  have hK := F.2.2.2.2.2.2.1
  have hl : lv_has ls 5 [(0, .ref a0), (1, .int x1), (2, .int x2)] := hl
  refine lv_aload_n hx hb dX4_only_0 rfl (lv_at hl 0 rfl) ?_
  refine lv_iload_n hx hb dX4_only_1 rfl (lv_at hl 1 rfl) ?_
  obtain ⟨q1, hq2, h⟩ := bd h
  refine kvI (ws' := [(a0, .inr (3, [.ref a_s, .ref a_past, .ref a_kept, .int zisKept, .int zpasts, .ref a_text, .int ztyped, .ref a_measure, .int zmost1, .int zmost3, .int zmost5, .ref a_chosen, .ref a_ways, .int zspot, .int zreason, .int zplaces, .ref a_owners, .ref a_ranks, .ref a_sets, .ref a_toldAt, .ref a_line])), (a_s, .inl (cI, 37, .inl zs)), (a_measure, .inl (cI, 12, .inl zmeasure))]) (wr := [(a_measure, .inl (cI, 12, .inl zmeasure))]) (As := [.int x1]) F (c_X4_isPlace l D cI cC cH a0 a_s a_past a_kept a_text a_measure a_chosen a_ways a_owners a_ranks a_sets a_toldAt a_line N x1 zs zisKept zpasts ztyped zmost1 zmost3 zmost5 zspot zreason zplaces q1 hq2) yfX4_isPlace ⟨wd2_231, wd2_233, wdp_20⟩ hP hD hS [0, 1] [2] [1, 2, 0] rfl rfl (by decide) (by decide) (by decide) rfl (by decide) 0 3 rfl rfl rfl ⟨Nat.le_of_ble_eq_true rfl, Nat.le_of_ble_eq_true rfl, Nat.zero_le _, Nat.zero_le _⟩ rfl hl rfl (Nat.le_of_ble_eq_true rfl) dX4_only_2 (fun H locs hP hD hS => ?_)
  refine lv_if_eq (tgt := 16) hx hb dX4_only_5 (by decide) (fun c3 => ?_) (fun c3 => ?_)
  · have h := itT h c3
    refine lv_iconst (v := (-1)) hx hb dX4_only_16 (by decide) ?_
    obtain rfl := Option.some.inj h
    exact hret _ _ _ _ _ rfl hP hD hS dX4_only_17
  · have h := itF h c3
    refine lv_aload_n hx hb dX4_only_8 rfl (lv_at hl 0 rfl) ?_
    refine lv_iload_n hx hb dX4_only_9 rfl (lv_at hl 2 rfl) ?_
    obtain ⟨q4, hq5, h⟩ := bd h
    refine kvI (ws' := [(a0, .inr (3, [.ref a_s, .ref a_past, .ref a_kept, .int zisKept, .int zpasts, .ref a_text, .int ztyped, .ref a_measure, .int zmost1, .int zmost3, .int zmost5, .ref a_chosen, .ref a_ways, .int zspot, .int zreason, .int zplaces, .ref a_owners, .ref a_ranks, .ref a_sets, .ref a_toldAt, .ref a_line])), (a_s, .inl (cI, 37, .inl zs)), (a_measure, .inl (cI, 12, .inl zmeasure))]) (wr := [(a_measure, .inl (cI, 12, .inl zmeasure))]) (As := [.int x2]) F (c_X4_isPlace l D cI cC cH a0 a_s a_past a_kept a_text a_measure a_chosen a_ways a_owners a_ranks a_sets a_toldAt a_line N x2 zs zisKept zpasts ztyped zmost1 zmost3 zmost5 zspot zreason zplaces q4 hq5) yfX4_isPlace ⟨wd2_231, wd2_233, wdp_20⟩ hP hD hS [0, 1] [2] [1, 2, 0] rfl rfl (by decide) (by decide) (by decide) rfl (by decide) 0 3 rfl rfl rfl ⟨Nat.le_of_ble_eq_true rfl, Nat.le_of_ble_eq_true rfl, Nat.zero_le _, Nat.zero_le _⟩ rfl hl rfl (Nat.le_of_ble_eq_true rfl) dX4_only_10 (fun H locs hP hD hS => ?_)
    refine lv_if_ne (tgt := 18) hx hb dX4_only_13 (by decide) (fun c6 => ?_) (fun c6 => ?_)
    · have h := itF h c6
      refine lv_aload_n hx hb dX4_only_18 rfl (lv_at hl 0 rfl) ?_
      refine lv_iload_n hx hb dX4_only_19 rfl (lv_at hl 1 rfl) ?_
      refine lv_iload_n hx hb dX4_only_20 rfl (lv_at hl 2 rfl) ?_
      obtain ⟨q7, hq8, h⟩ := bd h
      refine kvI (ws' := [(a0, .inr (3, [.ref a_s, .ref a_past, .ref a_kept, .int zisKept, .int zpasts, .ref a_text, .int ztyped, .ref a_measure, .int zmost1, .int zmost3, .int zmost5, .ref a_chosen, .ref a_ways, .int zspot, .int zreason, .int zplaces, .ref a_owners, .ref a_ranks, .ref a_sets, .ref a_toldAt, .ref a_line])), (a_s, .inl (cI, 37, .inl zs)), (a_measure, .inl (cI, 12, .inl zmeasure))]) (wr := [(a_measure, .inl (cI, 12, .inl zmeasure))]) (As := [.int x1, .int x2]) F (c_X4_hasWay l D cI cC cH a0 a_s a_past a_kept a_text a_measure a_chosen a_ways a_owners a_ranks a_sets a_toldAt a_line N x1 x2 zs zisKept zpasts ztyped zmost1 zmost3 zmost5 zspot zreason zplaces q7 hq8) yfX4_hasWay ⟨wd3_3, wd3_5, wdp_21⟩ hP hD hS [0, 1] [2] [1, 2, 0] rfl rfl (by decide) (by decide) (by decide) rfl (by decide) 0 3 rfl rfl rfl ⟨Nat.le_of_ble_eq_true rfl, Nat.le_of_ble_eq_true rfl, Nat.zero_le _, Nat.zero_le _⟩ rfl hl rfl (Nat.le_of_ble_eq_true rfl) dX4_only_21 (fun H locs hP hD hS => ?_)
      refine lv_if_ne (tgt := 30) hx hb dX4_only_24 (by decide) (fun c9 => ?_) (fun c9 => ?_)
      · have h := itF h c9
        refine lv_aload_n hx hb dX4_only_30 rfl (lv_at hl 0 rfl) ?_
        refine va_get (D := D) (ci := 3) (v := .ref a_s) (C := RX4) (T := TX4) (N := 21) hx hb hts inG4 hown hK hP 0 rfl rfl 0 (by decide) (hts _ wd2_152) (fun _ h9 => h9) rfl dX4_only_31 ?_
        refine lv_bipush (v := 25) hx hb dX4_only_34 (by decide) ?_
        refine lv_iload_n hx hb dX4_only_36 rfl (lv_at hl 1 rfl) ?_
        refine lv_iadd hx hb dX4_only_37 ?_
        obtain ⟨g10, h⟩ := chk_s h
        refine va_iald hx hb hK hP 1 0 rfl rfl (gi_in g10) dX4_only_38 ?_
        refine lv_istore_n (lv' := [(3, .int (zs (Int32.toNatClampNeg (25 + x1)))), (0, .ref a0), (1, .int x1), (2, .int x2)]) hx hb dX4_only_39 rfl hl (by decide) rfl (fun ls hl => ?_)
        refine lv_aload_n hx hb dX4_only_40 rfl (lv_at hl 1 rfl) ?_
        refine va_get (D := D) (ci := 3) (v := .ref a_s) (C := RX4) (T := TX4) (N := 21) hx hb hts inG4 hown hK hP 0 rfl rfl 0 (by decide) (hts _ wd2_152) (fun _ h9 => h9) rfl dX4_only_41 ?_
        refine lv_bipush (v := 25) hx hb dX4_only_44 (by decide) ?_
        refine lv_iload_n hx hb dX4_only_46 rfl (lv_at hl 2 rfl) ?_
        refine lv_iadd hx hb dX4_only_47 ?_
        refine lv_iconst (v := 1) hx hb dX4_only_48 (by decide) ?_
        refine lv_iload_n hx hb dX4_only_49 rfl (lv_at hl 3 rfl) ?_
        refine lv_ishl hx hb dX4_only_50 ?_
        obtain ⟨g11, h⟩ := chk_s h
        refine va_iast hx hb hK hP hD hS 1 0 rfl rfl (gi_in g11) dX4_only_51 (fun H locs hP hD hS => ?_)
        have hP : va_P D vwCl [(a0, .inr (3, [.ref a_s, .ref a_past, .ref a_kept, .int zisKept, .int zpasts, .ref a_text, .int ztyped, .ref a_measure, .int zmost1, .int zmost3, .int zmost5, .ref a_chosen, .ref a_ways, .int zspot, .int zreason, .int zplaces, .ref a_owners, .ref a_ranks, .ref a_sets, .ref a_toldAt, .ref a_line])), (a_s, .inl (cI, 37, .inl (upd zs (Int32.toNatClampNeg (25 + x1)) ((1 : Int32) <<< (x2 &&& 31))))), (a_measure, .inl (cI, 12, .inl zmeasure))] H := hP
        have hD : va_D A [(a0, .inr (3, [.ref a_s, .ref a_past, .ref a_kept, .int zisKept, .int zpasts, .ref a_text, .int ztyped, .ref a_measure, .int zmost1, .int zmost3, .int zmost5, .ref a_chosen, .ref a_ways, .int zspot, .int zreason, .int zplaces, .ref a_owners, .ref a_ranks, .ref a_sets, .ref a_toldAt, .ref a_line])), (a_s, .inl (cI, 37, .inl (upd zs (Int32.toNatClampNeg (25 + x1)) ((1 : Int32) <<< (x2 &&& 31))))), (a_measure, .inl (cI, 12, .inl zmeasure))] := hD
        refine lv_aload_n hx hb dX4_only_52 rfl (lv_at hl 1 rfl) ?_
        obtain ⟨q12, hq13, h⟩ := bd h
        refine kvI (ws' := [(a0, .inr (3, [.ref a_s, .ref a_past, .ref a_kept, .int zisKept, .int zpasts, .ref a_text, .int ztyped, .ref a_measure, .int q12.2.2.1, .int q12.2.2.2.1, .int q12.2.2.2.2, .ref a_chosen, .ref a_ways, .int zspot, .int zreason, .int zplaces, .ref a_owners, .ref a_ranks, .ref a_sets, .ref a_toldAt, .ref a_line])), (a_s, .inl (cI, 37, .inl (upd zs (Int32.toNatClampNeg (25 + x1)) ((1 : Int32) <<< (x2 &&& 31))))), (a_measure, .inl (cI, 12, .inl q12.2.1))]) (wr := []) (As := []) F (c_X4_won l D cI cC cH a0 a_s a_past a_kept a_text a_measure a_chosen a_ways a_owners a_ranks a_sets a_toldAt a_line N (upd zs (Int32.toNatClampNeg (25 + x1)) ((1 : Int32) <<< (x2 &&& 31))) zisKept zpasts ztyped zmeasure zmost1 zmost3 zmost5 zspot zreason zplaces q12 hq13) yfX4_won ⟨wd3_22, wd3_24, wdp_23⟩ hP hD hS [0, 1, 2] [] [0, 1, 2] rfl rfl (by decide) (by decide) (by decide) rfl (by decide) 0 3 rfl rfl rfl ⟨Nat.le_of_ble_eq_true rfl, Nat.le_of_ble_eq_true rfl, Nat.zero_le _, Nat.zero_le _⟩ rfl hl rfl (Nat.le_of_ble_eq_true rfl) dX4_only_53 (fun H locs hP hD hS => ?_)
        refine lv_istore (lv' := [(4, .int q12.1), (3, .int (zs (Int32.toNatClampNeg (25 + x1)))), (0, .ref a0), (1, .int x1), (2, .int x2)]) hx hb dX4_only_56 hl (by decide) rfl (fun ls hl => ?_)
        refine lv_aload_n hx hb dX4_only_58 rfl (lv_at hl 2 rfl) ?_
        refine va_get (D := D) (ci := 3) (v := .ref a_s) (C := RX4) (T := TX4) (N := 21) hx hb hts inG4 hown hK hP 0 rfl rfl 0 (by decide) (hts _ wd2_152) (fun _ h9 => h9) rfl dX4_only_59 ?_
        refine lv_bipush (v := 25) hx hb dX4_only_62 (by decide) ?_
        refine lv_iload_n hx hb dX4_only_64 rfl (lv_at hl 3 rfl) ?_
        refine lv_iadd hx hb dX4_only_65 ?_
        refine lv_iload_n hx hb dX4_only_66 rfl (lv_at hl 1 rfl) ?_
        obtain ⟨g14, h⟩ := chk_s h
        refine va_iast hx hb hK hP hD hS 1 0 rfl rfl (gi_in g14) dX4_only_67 (fun H locs hP hD hS => ?_)
        have hP : va_P D vwCl [(a0, .inr (3, [.ref a_s, .ref a_past, .ref a_kept, .int zisKept, .int zpasts, .ref a_text, .int ztyped, .ref a_measure, .int q12.2.2.1, .int q12.2.2.2.1, .int q12.2.2.2.2, .ref a_chosen, .ref a_ways, .int zspot, .int zreason, .int zplaces, .ref a_owners, .ref a_ranks, .ref a_sets, .ref a_toldAt, .ref a_line])), (a_s, .inl (cI, 37, .inl (upd (upd zs (Int32.toNatClampNeg (25 + x1)) ((1 : Int32) <<< (x2 &&& 31))) (Int32.toNatClampNeg (25 + x1)) (zs (Int32.toNatClampNeg (25 + x1)))))), (a_measure, .inl (cI, 12, .inl q12.2.1))] H := hP
        have hD : va_D A [(a0, .inr (3, [.ref a_s, .ref a_past, .ref a_kept, .int zisKept, .int zpasts, .ref a_text, .int ztyped, .ref a_measure, .int q12.2.2.1, .int q12.2.2.2.1, .int q12.2.2.2.2, .ref a_chosen, .ref a_ways, .int zspot, .int zreason, .int zplaces, .ref a_owners, .ref a_ranks, .ref a_sets, .ref a_toldAt, .ref a_line])), (a_s, .inl (cI, 37, .inl (upd (upd zs (Int32.toNatClampNeg (25 + x1)) ((1 : Int32) <<< (x2 &&& 31))) (Int32.toNatClampNeg (25 + x1)) (zs (Int32.toNatClampNeg (25 + x1)))))), (a_measure, .inl (cI, 12, .inl q12.2.1))] := hD
        refine lv_iload hx hb dX4_only_68 (lv_at hl 0 rfl) ?_
        obtain rfl := Option.some.inj h
        exact hret _ _ _ _ _ rfl hP hD hS dX4_only_70
      · have h := itT h c9
        refine lv_bipush (v := (-2)) hx hb dX4_only_27 (by decide) ?_
        obtain rfl := Option.some.inj h
        exact hret _ _ _ _ _ rfl hP hD hS dX4_only_29
    · have h := itT h c6
      refine lv_iconst (v := (-1)) hx hb dX4_only_16 (by decide) ?_
      obtain rfl := Option.some.inj h
      exact hret _ _ _ _ _ rfl hP hD hS dX4_only_17
def f_X4_turns (N : Nat) (x1 : Int32) (x2 : Int32) (x3 : Int32) (x4 : Int32) (zs : Nat → Int32) (zmeasure : Nat → Int32) (zmost1 : Int32) (zmost3 : Int32) (zmost5 : Int32) : Option (Int32 × (Nat → Int32) × (Nat → Int32) × Int32 × Int32 × Int32) :=
    chk (gi (13 + x3) 37) (chk (gi (13 + x3) 37) (Option.bind (f_X4_won N (upd zs (Int32.toNatClampNeg (13 + x3)) x4) zmeasure zmost1 zmost3 zmost5) (fun q3 => Option.bind (f_X4_winner N q3.1 x1) (fun q5 => Option.bind (α := Int32) (if q5 = x2 then (some (0)) else (some (1))) (fun q8 => chk (gi (13 + x3) 37) (chk (isZ q8) (some (q8, upd (upd zs (Int32.toNatClampNeg (13 + x3)) x4) (Int32.toNatClampNeg (13 + x3)) (zs (Int32.toNatClampNeg (13 + x3))), q3.2.1, q3.2.2.1, q3.2.2.2.1, q3.2.2.2.2))))))))
set_option maxHeartbeats 4000000 in
set_option maxRecDepth 100000 in
theorem c_X4_turns (l : Launch) (D : va_G) (cI cC cH : ClassId) (a0 : Nat) (a_s : Nat) (a_past : Nat) (a_kept : Nat) (a_text : Nat) (a_measure : Nat) (a_chosen : Nat) (a_ways : Nat) (a_owners : Nat) (a_ranks : Nat) (a_sets : Nat) (a_toldAt : Nat) (a_line : Nat) (N : Nat) (x1 : Int32) (x2 : Int32) (x3 : Int32) (x4 : Int32) (zs : Nat → Int32) (zisKept : Int32) (zpasts : Int32) (ztyped : Int32) (zmeasure : Nat → Int32) (zmost1 : Int32) (zmost3 : Int32) (zmost5 : Int32) (zspot : Int32) (zreason : Int32) (zplaces : Int32) (y : Int32 × (Nat → Int32) × (Nat → Int32) × Int32 × Int32 × Int32) (h : f_X4_turns N x1 x2 x3 x4 zs zmeasure zmost1 zmost3 zmost5 = some y) : CTi l yX4_turns cX4_turns 7 (some .boolean) 3 74 D (tyL cI cC cH) [.ref a0, .int x1, .int x2, .int x3, .int x4] [(a0, .inr (3, [.ref a_s, .ref a_past, .ref a_kept, .int zisKept, .int zpasts, .ref a_text, .int ztyped, .ref a_measure, .int zmost1, .int zmost3, .int zmost5, .ref a_chosen, .ref a_ways, .int zspot, .int zreason, .int zplaces, .ref a_owners, .ref a_ranks, .ref a_sets, .ref a_toldAt, .ref a_line])), (a_s, .inl (cI, 37, .inl zs)), (a_measure, .inl (cI, 12, .inl zmeasure))] [(a0, .inr (3, [.ref a_s, .ref a_past, .ref a_kept, .int zisKept, .int zpasts, .ref a_text, .int ztyped, .ref a_measure, .int y.2.2.2.1, .int y.2.2.2.2.1, .int y.2.2.2.2.2, .ref a_chosen, .ref a_ways, .int zspot, .int zreason, .int zplaces, .ref a_owners, .ref a_ranks, .ref a_sets, .ref a_toldAt, .ref a_line])), (a_s, .inl (cI, 37, .inl y.2.1)), (a_measure, .inl (cI, 12, .inl y.2.2.1))] y.1 := by
  unfold f_X4_turns at h
  refine ctZ (by decide) (Nat.le_of_ble_eq_true rfl) ?_
  intro p e s m args below meth c A Q ls F hret hP hD hS hl
  have hx := F.1
  have hb := F.2.1
  have hown : s.vm.findClass RX4 = some m.cls := F.2.2.2.1
  have hts := F.2.2.2.2.1
  have hN := F.2.2.2.2.2.1
  have hK := F.2.2.2.2.2.2.1
  have hl : lv_has ls 7 [(0, .ref a0), (1, .int x1), (2, .int x2), (3, .int x3), (4, .int x4)] := hl
  refine lv_aload_n hx hb dX4_turns_0 rfl (lv_at hl 0 rfl) ?_
  refine va_get (D := D) (ci := 3) (v := .ref a_s) (C := RX4) (T := TX4) (N := 21) hx hb hts inG4 hown hK hP 0 rfl rfl 0 (by decide) (hts _ wd2_152) (fun _ h9 => h9) rfl dX4_turns_1 ?_
  refine lv_bipush (v := 13) hx hb dX4_turns_4 (by decide) ?_
  refine lv_iload_n hx hb dX4_turns_6 rfl (lv_at hl 3 rfl) ?_
  refine lv_iadd hx hb dX4_turns_7 ?_
  obtain ⟨g1, h⟩ := chk_s h
  refine va_iald hx hb hK hP 1 0 rfl rfl (gi_in g1) dX4_turns_8 ?_
  refine lv_istore (lv' := [(5, .int (zs (Int32.toNatClampNeg (13 + x3)))), (0, .ref a0), (1, .int x1), (2, .int x2), (3, .int x3), (4, .int x4)]) hx hb dX4_turns_9 hl (by decide) rfl (fun ls hl => ?_)
  refine lv_aload_n hx hb dX4_turns_11 rfl (lv_at hl 1 rfl) ?_
  refine va_get (D := D) (ci := 3) (v := .ref a_s) (C := RX4) (T := TX4) (N := 21) hx hb hts inG4 hown hK hP 0 rfl rfl 0 (by decide) (hts _ wd2_152) (fun _ h9 => h9) rfl dX4_turns_12 ?_
  refine lv_bipush (v := 13) hx hb dX4_turns_15 (by decide) ?_
  refine lv_iload_n hx hb dX4_turns_17 rfl (lv_at hl 4 rfl) ?_
  refine lv_iadd hx hb dX4_turns_18 ?_
  refine lv_iload hx hb dX4_turns_19 (lv_at hl 5 rfl) ?_
  obtain ⟨g2, h⟩ := chk_s h
  refine va_iast hx hb hK hP hD hS 1 0 rfl rfl (gi_in g2) dX4_turns_21 (fun H locs hP hD hS => ?_)
  have hP : va_P D vwCl [(a0, .inr (3, [.ref a_s, .ref a_past, .ref a_kept, .int zisKept, .int zpasts, .ref a_text, .int ztyped, .ref a_measure, .int zmost1, .int zmost3, .int zmost5, .ref a_chosen, .ref a_ways, .int zspot, .int zreason, .int zplaces, .ref a_owners, .ref a_ranks, .ref a_sets, .ref a_toldAt, .ref a_line])), (a_s, .inl (cI, 37, .inl (upd zs (Int32.toNatClampNeg (13 + x3)) x4))), (a_measure, .inl (cI, 12, .inl zmeasure))] H := hP
  have hD : va_D A [(a0, .inr (3, [.ref a_s, .ref a_past, .ref a_kept, .int zisKept, .int zpasts, .ref a_text, .int ztyped, .ref a_measure, .int zmost1, .int zmost3, .int zmost5, .ref a_chosen, .ref a_ways, .int zspot, .int zreason, .int zplaces, .ref a_owners, .ref a_ranks, .ref a_sets, .ref a_toldAt, .ref a_line])), (a_s, .inl (cI, 37, .inl (upd zs (Int32.toNatClampNeg (13 + x3)) x4))), (a_measure, .inl (cI, 12, .inl zmeasure))] := hD
  refine lv_aload_n hx hb dX4_turns_22 rfl (lv_at hl 1 rfl) ?_
  obtain ⟨q3, hq4, h⟩ := bd h
  refine kvI (ws' := [(a0, .inr (3, [.ref a_s, .ref a_past, .ref a_kept, .int zisKept, .int zpasts, .ref a_text, .int ztyped, .ref a_measure, .int q3.2.2.1, .int q3.2.2.2.1, .int q3.2.2.2.2, .ref a_chosen, .ref a_ways, .int zspot, .int zreason, .int zplaces, .ref a_owners, .ref a_ranks, .ref a_sets, .ref a_toldAt, .ref a_line])), (a_s, .inl (cI, 37, .inl (upd zs (Int32.toNatClampNeg (13 + x3)) x4))), (a_measure, .inl (cI, 12, .inl q3.2.1))]) (wr := []) (As := []) F (c_X4_won l D cI cC cH a0 a_s a_past a_kept a_text a_measure a_chosen a_ways a_owners a_ranks a_sets a_toldAt a_line N (upd zs (Int32.toNatClampNeg (13 + x3)) x4) zisKept zpasts ztyped zmeasure zmost1 zmost3 zmost5 zspot zreason zplaces q3 hq4) yfX4_won ⟨wd3_22, wd3_24, wdp_23⟩ hP hD hS [0, 1, 2] [] [0, 1, 2] rfl rfl (by decide) (by decide) (by decide) rfl (by decide) 0 3 rfl rfl rfl ⟨Nat.le_of_ble_eq_true rfl, Nat.le_of_ble_eq_true rfl, Nat.zero_le _, Nat.zero_le _⟩ rfl hl rfl (Nat.le_of_ble_eq_true rfl) dX4_turns_23 (fun H locs hP hD hS => ?_)
  refine lv_iload_n hx hb dX4_turns_26 rfl (lv_at hl 2 rfl) ?_
  obtain ⟨q5, hq6, h⟩ := bd h
  refine ks0 (As := [.int q3.1, .int x1]) F (c_X4_winner l D cI cC cH  N q3.1 x1 q5 hq6) yfX4_winner ⟨wd3_39, wd3_40⟩ hP hD hS ⟨Nat.le_of_ble_eq_true rfl, Nat.le_of_ble_eq_true rfl, Nat.zero_le _, Nat.zero_le _⟩ rfl hl rfl (Nat.le_of_ble_eq_true rfl) dX4_turns_27 (fun H locs hP hD hS => ?_)
  refine lv_iload_n hx hb dX4_turns_30 rfl (lv_at hl 3 rfl) ?_
  obtain ⟨q8, hb13, h⟩ := bd h
  have J9 : ∀ (ls : Array Slot) (H : Heap) (locs : List Loc), lv_has ls 7 [(0, .ref a0), (3, .int x3), (5, .int (zs (Int32.toNatClampNeg (13 + x3))))] → va_P D vwCl [(a0, .inr (3, [.ref a_s, .ref a_past, .ref a_kept, .int zisKept, .int zpasts, .ref a_text, .int ztyped, .ref a_measure, .int q3.2.2.1, .int q3.2.2.2.1, .int q3.2.2.2.2, .ref a_chosen, .ref a_ways, .int zspot, .int zreason, .int zplaces, .ref a_owners, .ref a_ranks, .ref a_sets, .ref a_toldAt, .ref a_line])), (a_s, .inl (cI, 37, .inl (upd zs (Int32.toNatClampNeg (13 + x3)) x4))), (a_measure, .inl (cI, 12, .inl q3.2.1))] H → va_D A [(a0, .inr (3, [.ref a_s, .ref a_past, .ref a_kept, .int zisKept, .int zpasts, .ref a_text, .int ztyped, .ref a_measure, .int q3.2.2.1, .int q3.2.2.2.1, .int q3.2.2.2.2, .ref a_chosen, .ref a_ways, .int zspot, .int zreason, .int zplaces, .ref a_owners, .ref a_ranks, .ref a_sets, .ref a_toldAt, .ref a_line])), (a_s, .inl (cI, 37, .inl (upd zs (Int32.toNatClampNeg (13 + x3)) x4))), (a_measure, .inl (cI, 12, .inl q3.2.1))] → va_S A s.heap H locs → W p l e (rmm 3 74) s m args below meth c H locs 0 0 Q (F0 m 39 ls [.int q8]) := by
    intro ls H locs hl hP hD hS
    refine lv_istore (lv' := [(6, .int q8), (0, .ref a0), (3, .int x3), (5, .int (zs (Int32.toNatClampNeg (13 + x3))))]) hx hb dX4_turns_39 hl (by decide) rfl (fun ls hl => ?_)
    refine lv_aload_n hx hb dX4_turns_41 rfl (lv_at hl 1 rfl) ?_
    refine va_get (D := D) (ci := 3) (v := .ref a_s) (C := RX4) (T := TX4) (N := 21) hx hb hts inG4 hown hK hP 0 rfl rfl 0 (by decide) (hts _ wd2_152) (fun _ h9 => h9) rfl dX4_turns_42 ?_
    refine lv_bipush (v := 13) hx hb dX4_turns_45 (by decide) ?_
    refine lv_iload_n hx hb dX4_turns_47 rfl (lv_at hl 2 rfl) ?_
    refine lv_iadd hx hb dX4_turns_48 ?_
    refine lv_iload hx hb dX4_turns_49 (lv_at hl 3 rfl) ?_
    obtain ⟨g11, h⟩ := chk_s h
    refine va_iast hx hb hK hP hD hS 1 0 rfl rfl (gi_in g11) dX4_turns_51 (fun H locs hP hD hS => ?_)
    have hP : va_P D vwCl [(a0, .inr (3, [.ref a_s, .ref a_past, .ref a_kept, .int zisKept, .int zpasts, .ref a_text, .int ztyped, .ref a_measure, .int q3.2.2.1, .int q3.2.2.2.1, .int q3.2.2.2.2, .ref a_chosen, .ref a_ways, .int zspot, .int zreason, .int zplaces, .ref a_owners, .ref a_ranks, .ref a_sets, .ref a_toldAt, .ref a_line])), (a_s, .inl (cI, 37, .inl (upd (upd zs (Int32.toNatClampNeg (13 + x3)) x4) (Int32.toNatClampNeg (13 + x3)) (zs (Int32.toNatClampNeg (13 + x3)))))), (a_measure, .inl (cI, 12, .inl q3.2.1))] H := hP
    have hD : va_D A [(a0, .inr (3, [.ref a_s, .ref a_past, .ref a_kept, .int zisKept, .int zpasts, .ref a_text, .int ztyped, .ref a_measure, .int q3.2.2.1, .int q3.2.2.2.1, .int q3.2.2.2.2, .ref a_chosen, .ref a_ways, .int zspot, .int zreason, .int zplaces, .ref a_owners, .ref a_ranks, .ref a_sets, .ref a_toldAt, .ref a_line])), (a_s, .inl (cI, 37, .inl (upd (upd zs (Int32.toNatClampNeg (13 + x3)) x4) (Int32.toNatClampNeg (13 + x3)) (zs (Int32.toNatClampNeg (13 + x3)))))), (a_measure, .inl (cI, 12, .inl q3.2.1))] := hD
    refine lv_iload hx hb dX4_turns_52 (lv_at hl 0 rfl) ?_
    obtain ⟨g12, h⟩ := chk_s h
    obtain rfl := Option.some.inj h
    exact hret _ _ _ _ _ (isZ_n g12) rfl hP hD hS dX4_turns_54
  clear h
  have h := hb13
  clear hb13
  refine lv_icmp_eq (tgt := 38) hx hb dX4_turns_31 (by decide) (fun c7 => ?_) (fun c7 => ?_)
  · have h := itT h c7
    refine lv_iconst (v := 0) hx hb dX4_turns_38 (by decide) ?_
    obtain rfl := Option.some.inj h
    exact J9 _ _ _ (lv_sub hl [1, 4, 0] rfl) hP hD hS
  · have h := itF h c7
    refine lv_iconst (v := 1) hx hb dX4_turns_34 (by decide) ?_
    refine lv_goto (tgt := 39) hx hb dX4_turns_35 (by decide) ?_
    obtain rfl := Option.some.inj h
    exact J9 _ _ _ (lv_sub hl [1, 4, 0] rfl) hP hD hS
def f_X4_littleChange_L41 (N : Nat) (x1_41 : Int32) (x2_41 : Int32) (x3_41 : Int32) (x4_41 : Int32) : Nat → Int32 → (Nat → Int32) → (Nat → Int32) → Int32 → Int32 → Int32 → Option ((Int32 × (Nat → Int32) × (Nat → Int32) × Int32 × Int32 × Int32) ⊕ ((Nat → Int32) × (Nat → Int32) × Int32 × Int32 × Int32))
  | 0, _, _, _, _, _, _ => none
  | n_41 + 1, x5_41, zs_41, zmeasure_41, zmost1_41, zmost3_41, zmost5_41 =>
    chk (gi 0 37) (if (zs_41 (Int32.toNatClampNeg 0)) ≤ x5_41 then (some (.inr (zs_41, zmeasure_41, zmost1_41, zmost3_41, zmost5_41))) else (chk (gi (13 + x5_41) 37) (Option.bind (α := (Int32 × (Nat → Int32) × (Nat → Int32) × Int32 × Int32 × Int32) ⊕ ((Nat → Int32) × (Nat → Int32) × Int32 × Int32 × Int32)) (if (zs_41 (Int32.toNatClampNeg (13 + x5_41))) < x4_41 then (some (.inr (zs_41, zmeasure_41, zmost1_41, zmost3_41, zmost5_41))) else (Option.bind (f_X4_turns N x1_41 x3_41 x5_41 ((zs_41 (Int32.toNatClampNeg (13 + x5_41))) - x4_41) zs_41 zmeasure_41 zmost1_41 zmost3_41 zmost5_41) (fun q20 => if q20.1 = 0 then (some (.inr (q20.2.1, q20.2.2.1, q20.2.2.2.1, q20.2.2.2.2.1, q20.2.2.2.2.2))) else (if x2_41 = 0 then (some (.inl (x5_41, q20.2.1, q20.2.2.1, q20.2.2.2.1, q20.2.2.2.2.1, q20.2.2.2.2.2))) else (some (.inl ((zs_41 (Int32.toNatClampNeg (13 + x5_41))) - x4_41, q20.2.1, q20.2.2.1, q20.2.2.2.1, q20.2.2.2.2.1, q20.2.2.2.2.2))))))) (fun q16 => sm q16 (fun r9 => some (.inl r9)) (fun t17 => Option.bind (α := (Int32 × (Nat → Int32) × (Nat → Int32) × Int32 × Int32 × Int32) ⊕ ((Nat → Int32) × (Nat → Int32) × Int32 × Int32 × Int32)) (if 6 ≤ ((zs_41 (Int32.toNatClampNeg (13 + x5_41))) + x4_41) then (some (.inr (t17.1, t17.2.1, t17.2.2.1, t17.2.2.2.1, t17.2.2.2.2))) else (Option.bind (f_X4_turns N x1_41 x3_41 x5_41 ((zs_41 (Int32.toNatClampNeg (13 + x5_41))) + x4_41) t17.1 t17.2.1 t17.2.2.1 t17.2.2.2.1 t17.2.2.2.2) (fun q29 => if q29.1 = 0 then (some (.inr (q29.2.1, q29.2.2.1, q29.2.2.2.1, q29.2.2.2.2.1, q29.2.2.2.2.2))) else (if x2_41 = 0 then (some (.inl (x5_41, q29.2.1, q29.2.2.1, q29.2.2.2.1, q29.2.2.2.2.1, q29.2.2.2.2.2))) else (some (.inl ((zs_41 (Int32.toNatClampNeg (13 + x5_41))) + x4_41, q29.2.1, q29.2.2.1, q29.2.2.2.1, q29.2.2.2.2.1, q29.2.2.2.2.2))))))) (fun q25 => sm q25 (fun r9 => some (.inl r9)) (fun t26 => f_X4_littleChange_L41 N x1_41 x2_41 x3_41 x4_41 n_41 (x5_41 + 1) t26.1 t26.2.1 t26.2.2.1 t26.2.2.2.1 t26.2.2.2.2)))))))
def f_X4_littleChange_L31 (N : Nat) (x1_31 : Int32) (x2_31 : Int32) (x3_31 : Int32) : Nat → Int32 → (Nat → Int32) → (Nat → Int32) → Int32 → Int32 → Int32 → Option ((Int32 × (Nat → Int32) × (Nat → Int32) × Int32 × Int32 × Int32) ⊕ ((Nat → Int32) × (Nat → Int32) × Int32 × Int32 × Int32))
  | 0, _, _, _, _, _, _ => none
  | n_31 + 1, x4_31, zs_31, zmeasure_31, zmost1_31, zmost3_31, zmost5_31 =>
    if 6 ≤ x4_31 then (some (.inr (zs_31, zmeasure_31, zmost1_31, zmost3_31, zmost5_31))) else (Option.bind (f_X4_littleChange_L41 N x1_31 x2_31 x3_31 x4_31 N 0 zs_31 zmeasure_31 zmost1_31 zmost3_31 zmost5_31) (fun q37 => sm q37 (fun r9 => some (.inl r9)) (fun t38 => f_X4_littleChange_L31 N x1_31 x2_31 x3_31 n_31 (x4_31 + 1) t38.1 t38.2.1 t38.2.2.1 t38.2.2.2.1 t38.2.2.2.2)))
def f_X4_littleChange (N : Nat) (x1 : Int32) (x2 : Int32) (zs : Nat → Int32) (zmeasure : Nat → Int32) (zmost1 : Int32) (zmost3 : Int32) (zmost5 : Int32) : Option (Int32 × (Nat → Int32) × (Nat → Int32) × Int32 × Int32 × Int32) :=
    Option.bind (f_X4_isPlace N x1 zs) (fun q1 => if q1 = 0 then (some ((-1), zs, zmeasure, zmost1, zmost3, zmost5)) else (Option.bind (f_X4_in N x2 0 1) (fun q4 => if q4 = 0 then (some ((-1), zs, zmeasure, zmost1, zmost3, zmost5)) else (Option.bind (f_X4_won N zs zmeasure zmost1 zmost3 zmost5) (fun q7 => Option.bind (f_X4_winner N q7.1 x1) (fun q9 => Option.bind (f_X4_littleChange_L31 N x1 x2 q9 N 1 zs q7.2.1 q7.2.2.1 q7.2.2.2.1 q7.2.2.2.2) (fun q43 => sm q43 some (fun t44 => some ((-4), t44.1, t44.2.1, t44.2.2.1, t44.2.2.2.1, t44.2.2.2.2)))))))))
set_option maxHeartbeats 4000000 in
set_option maxRecDepth 100000 in
theorem c_X4_littleChange (l : Launch) (D : va_G) (cI cC cH : ClassId) (a0 : Nat) (a_s : Nat) (a_past : Nat) (a_kept : Nat) (a_text : Nat) (a_measure : Nat) (a_chosen : Nat) (a_ways : Nat) (a_owners : Nat) (a_ranks : Nat) (a_sets : Nat) (a_toldAt : Nat) (a_line : Nat) (N : Nat) (x1 : Int32) (x2 : Int32) (zs : Nat → Int32) (zisKept : Int32) (zpasts : Int32) (ztyped : Int32) (zmeasure : Nat → Int32) (zmost1 : Int32) (zmost3 : Int32) (zmost5 : Int32) (zspot : Int32) (zreason : Int32) (zplaces : Int32) (y : Int32 × (Nat → Int32) × (Nat → Int32) × Int32 × Int32 × Int32) (h : f_X4_littleChange N x1 x2 zs zmeasure zmost1 zmost3 zmost5 = some y) : CTi l yX4_littleChange cX4_littleChange 7 (some .int) 4 100 D (tyL cI cC cH) [.ref a0, .int x1, .int x2] [(a0, .inr (3, [.ref a_s, .ref a_past, .ref a_kept, .int zisKept, .int zpasts, .ref a_text, .int ztyped, .ref a_measure, .int zmost1, .int zmost3, .int zmost5, .ref a_chosen, .ref a_ways, .int zspot, .int zreason, .int zplaces, .ref a_owners, .ref a_ranks, .ref a_sets, .ref a_toldAt, .ref a_line])), (a_s, .inl (cI, 37, .inl zs)), (a_measure, .inl (cI, 12, .inl zmeasure))] [(a0, .inr (3, [.ref a_s, .ref a_past, .ref a_kept, .int zisKept, .int zpasts, .ref a_text, .int ztyped, .ref a_measure, .int y.2.2.2.1, .int y.2.2.2.2.1, .int y.2.2.2.2.2, .ref a_chosen, .ref a_ways, .int zspot, .int zreason, .int zplaces, .ref a_owners, .ref a_ranks, .ref a_sets, .ref a_toldAt, .ref a_line])), (a_s, .inl (cI, 37, .inl y.2.1)), (a_measure, .inl (cI, 12, .inl y.2.2.1))] y.1 := by
  unfold f_X4_littleChange at h
  refine ctI (by decide) (Nat.le_of_ble_eq_true rfl) ?_
  intro p e s m args below meth c A Q ls F hret hP hD hS hl
  have hx := F.1
  have hb := F.2.1
  have hown : s.vm.findClass RX4 = some m.cls := F.2.2.2.1
  have hts := F.2.2.2.2.1
  have hN := F.2.2.2.2.2.1
  have hK := F.2.2.2.2.2.2.1
  have hl : lv_has ls 7 [(0, .ref a0), (1, .int x1), (2, .int x2)] := hl
  refine lv_aload_n hx hb dX4_littleChange_0 rfl (lv_at hl 0 rfl) ?_
  refine lv_iload_n hx hb dX4_littleChange_1 rfl (lv_at hl 1 rfl) ?_
  obtain ⟨q1, hq2, h⟩ := bd h
  refine kvI (ws' := [(a0, .inr (3, [.ref a_s, .ref a_past, .ref a_kept, .int zisKept, .int zpasts, .ref a_text, .int ztyped, .ref a_measure, .int zmost1, .int zmost3, .int zmost5, .ref a_chosen, .ref a_ways, .int zspot, .int zreason, .int zplaces, .ref a_owners, .ref a_ranks, .ref a_sets, .ref a_toldAt, .ref a_line])), (a_s, .inl (cI, 37, .inl zs)), (a_measure, .inl (cI, 12, .inl zmeasure))]) (wr := [(a_measure, .inl (cI, 12, .inl zmeasure))]) (As := [.int x1]) F (c_X4_isPlace l D cI cC cH a0 a_s a_past a_kept a_text a_measure a_chosen a_ways a_owners a_ranks a_sets a_toldAt a_line N x1 zs zisKept zpasts ztyped zmost1 zmost3 zmost5 zspot zreason zplaces q1 hq2) yfX4_isPlace ⟨wd2_231, wd2_233, wdp_20⟩ hP hD hS [0, 1] [2] [1, 2, 0] rfl rfl (by decide) (by decide) (by decide) rfl (by decide) 0 3 rfl rfl rfl ⟨Nat.le_of_ble_eq_true rfl, Nat.le_of_ble_eq_true rfl, Nat.zero_le _, Nat.zero_le _⟩ rfl hl rfl (Nat.le_of_ble_eq_true rfl) dX4_littleChange_2 (fun H locs hP hD hS => ?_)
  refine lv_if_eq (tgt := 17) hx hb dX4_littleChange_5 (by decide) (fun c3 => ?_) (fun c3 => ?_)
  · have h := itT h c3
    refine lv_iconst (v := (-1)) hx hb dX4_littleChange_17 (by decide) ?_
    obtain rfl := Option.some.inj h
    exact hret _ _ _ _ _ rfl hP hD hS dX4_littleChange_18
  · have h := itF h c3
    refine lv_iload_n hx hb dX4_littleChange_8 rfl (lv_at hl 2 rfl) ?_
    refine lv_iconst (v := 0) hx hb dX4_littleChange_9 (by decide) ?_
    refine lv_iconst (v := 1) hx hb dX4_littleChange_10 (by decide) ?_
    obtain ⟨q4, hq5, h⟩ := bd h
    refine ks0 (As := [.int x2, .int 0, .int 1]) F (c_X4_in l D cI cC cH  N x2 0 1 q4 hq5) yfX4_in ⟨wd2_220, wd2_221⟩ hP hD hS ⟨Nat.le_of_ble_eq_true rfl, Nat.le_of_ble_eq_true rfl, Nat.zero_le _, Nat.zero_le _⟩ rfl hl rfl (Nat.le_of_ble_eq_true rfl) dX4_littleChange_11 (fun H locs hP hD hS => ?_)
    refine lv_if_ne (tgt := 19) hx hb dX4_littleChange_14 (by decide) (fun c6 => ?_) (fun c6 => ?_)
    · have h := itF h c6
      refine lv_aload_n hx hb dX4_littleChange_19 rfl (lv_at hl 0 rfl) ?_
      obtain ⟨q7, hq8, h⟩ := bd h
      refine kvI (ws' := [(a0, .inr (3, [.ref a_s, .ref a_past, .ref a_kept, .int zisKept, .int zpasts, .ref a_text, .int ztyped, .ref a_measure, .int q7.2.2.1, .int q7.2.2.2.1, .int q7.2.2.2.2, .ref a_chosen, .ref a_ways, .int zspot, .int zreason, .int zplaces, .ref a_owners, .ref a_ranks, .ref a_sets, .ref a_toldAt, .ref a_line])), (a_s, .inl (cI, 37, .inl zs)), (a_measure, .inl (cI, 12, .inl q7.2.1))]) (wr := []) (As := []) F (c_X4_won l D cI cC cH a0 a_s a_past a_kept a_text a_measure a_chosen a_ways a_owners a_ranks a_sets a_toldAt a_line N zs zisKept zpasts ztyped zmeasure zmost1 zmost3 zmost5 zspot zreason zplaces q7 hq8) yfX4_won ⟨wd3_22, wd3_24, wdp_23⟩ hP hD hS [0, 1, 2] [] [0, 1, 2] rfl rfl (by decide) (by decide) (by decide) rfl (by decide) 0 3 rfl rfl rfl ⟨Nat.le_of_ble_eq_true rfl, Nat.le_of_ble_eq_true rfl, Nat.zero_le _, Nat.zero_le _⟩ rfl hl rfl (Nat.le_of_ble_eq_true rfl) dX4_littleChange_20 (fun H locs hP hD hS => ?_)
      refine lv_iload_n hx hb dX4_littleChange_23 rfl (lv_at hl 1 rfl) ?_
      obtain ⟨q9, hq10, h⟩ := bd h
      refine ks0 (As := [.int q7.1, .int x1]) F (c_X4_winner l D cI cC cH  N q7.1 x1 q9 hq10) yfX4_winner ⟨wd3_39, wd3_40⟩ hP hD hS ⟨Nat.le_of_ble_eq_true rfl, Nat.le_of_ble_eq_true rfl, Nat.zero_le _, Nat.zero_le _⟩ rfl hl rfl (Nat.le_of_ble_eq_true rfl) dX4_littleChange_24 (fun H locs hP hD hS => ?_)
      refine lv_istore_n (lv' := [(3, .int q9), (0, .ref a0), (1, .int x1), (2, .int x2)]) hx hb dX4_littleChange_27 rfl hl (by decide) rfl (fun ls hl => ?_)
      refine lv_iconst (v := 1) hx hb dX4_littleChange_28 (by decide) ?_
      refine lv_istore (lv' := [(4, .int 1), (3, .int q9), (0, .ref a0), (1, .int x1), (2, .int x2)]) hx hb dX4_littleChange_29 hl (by decide) rfl (fun ls hl => ?_)
      have L_31 : ∀ (n_31 : Nat) (x4_31 : Int32) (zs_31 : Nat → Int32) (zmeasure_31 : Nat → Int32) (zmost1_31 : Int32) (zmost3_31 : Int32) (zmost5_31 : Int32) (q41 : ((Int32 × (Nat → Int32) × (Nat → Int32) × Int32 × Int32 × Int32) ⊕ ((Nat → Int32) × (Nat → Int32) × Int32 × Int32 × Int32))), f_X4_littleChange_L31 N x1 x2 q9 n_31 x4_31 zs_31 zmeasure_31 zmost1_31 zmost3_31 zmost5_31 = some q41 → (∀ (t42 : (Nat → Int32) × (Nat → Int32) × Int32 × Int32 × Int32), q41 = .inr t42 → ∀ (ls : Array Slot) (H : Heap) (locs : List Loc), lv_has ls 7 [] → va_P D vwCl [(a0, .inr (3, [.ref a_s, .ref a_past, .ref a_kept, .int zisKept, .int zpasts, .ref a_text, .int ztyped, .ref a_measure, .int t42.2.2.1, .int t42.2.2.2.1, .int t42.2.2.2.2, .ref a_chosen, .ref a_ways, .int zspot, .int zreason, .int zplaces, .ref a_owners, .ref a_ranks, .ref a_sets, .ref a_toldAt, .ref a_line])), (a_s, .inl (cI, 37, .inl t42.1)), (a_measure, .inl (cI, 12, .inl t42.2.1))] H → va_D A [(a0, .inr (3, [.ref a_s, .ref a_past, .ref a_kept, .int zisKept, .int zpasts, .ref a_text, .int ztyped, .ref a_measure, .int t42.2.2.1, .int t42.2.2.2.1, .int t42.2.2.2.2, .ref a_chosen, .ref a_ways, .int zspot, .int zreason, .int zplaces, .ref a_owners, .ref a_ranks, .ref a_sets, .ref a_toldAt, .ref a_line])), (a_s, .inl (cI, 37, .inl t42.1)), (a_measure, .inl (cI, 12, .inl t42.2.1))] → va_S A s.heap H locs → W p l e (rmm 4 100) s m args below meth c H locs 0 0 Q (F0 m 155 ls [])) → (∀ r9, q41 = .inl r9 → r9 = y) → ∀ (ls : Array Slot) (H : Heap) (locs : List Loc), lv_has ls 7 [(0, .ref a0), (1, .int x1), (2, .int x2), (3, .int q9), (4, .int x4_31)] → va_P D vwCl [(a0, .inr (3, [.ref a_s, .ref a_past, .ref a_kept, .int zisKept, .int zpasts, .ref a_text, .int ztyped, .ref a_measure, .int zmost1_31, .int zmost3_31, .int zmost5_31, .ref a_chosen, .ref a_ways, .int zspot, .int zreason, .int zplaces, .ref a_owners, .ref a_ranks, .ref a_sets, .ref a_toldAt, .ref a_line])), (a_s, .inl (cI, 37, .inl zs_31)), (a_measure, .inl (cI, 12, .inl zmeasure_31))] H → va_D A [(a0, .inr (3, [.ref a_s, .ref a_past, .ref a_kept, .int zisKept, .int zpasts, .ref a_text, .int ztyped, .ref a_measure, .int zmost1_31, .int zmost3_31, .int zmost5_31, .ref a_chosen, .ref a_ways, .int zspot, .int zreason, .int zplaces, .ref a_owners, .ref a_ranks, .ref a_sets, .ref a_toldAt, .ref a_line])), (a_s, .inl (cI, 37, .inl zs_31)), (a_measure, .inl (cI, 12, .inl zmeasure_31))] → va_S A s.heap H locs → W p l e (rmm 4 100) s m args below meth c H locs 0 0 Q (F0 m 31 ls []) := by
        intro  n_31
        induction n_31 with
        | zero => intro x4_31 zs_31 zmeasure_31 zmost1_31 zmost3_31 zmost5_31 q41 h; exact no_s h
        | succ n_31 ih_31 =>
          intro x4_31 zs_31 zmeasure_31 zmost1_31 zmost3_31 zmost5_31 q41 h J_31 hr_31 ls H locs hl hP hD hS
          rw [f_X4_littleChange_L31] at h
          refine lv_iload hx hb dX4_littleChange_31 (lv_at hl 4 rfl) ?_
          refine lv_bipush (v := 6) hx hb dX4_littleChange_33 (by decide) ?_
          refine lv_icmp_ge (tgt := 155) hx hb dX4_littleChange_35 (by decide) (fun c11 => ?_) (fun c11 => ?_)
          · have h := itT h c11
            obtain rfl := Option.some.inj h
            exact J_31 _ rfl _ _ _ (lv_sub hl [] rfl) hP hD hS
          · have h := itF h c11
            refine lv_iconst (v := 0) hx hb dX4_littleChange_38 (by decide) ?_
            refine lv_istore (lv' := [(5, .int 0), (0, .ref a0), (1, .int x1), (2, .int x2), (3, .int q9), (4, .int x4_31)]) hx hb dX4_littleChange_39 hl (by decide) rfl (fun ls hl => ?_)
            have L_41 : ∀ (n_41 : Nat) (x5_41 : Int32) (zs_41 : Nat → Int32) (zmeasure_41 : Nat → Int32) (zmost1_41 : Int32) (zmost3_41 : Int32) (zmost5_41 : Int32) (q35 : ((Int32 × (Nat → Int32) × (Nat → Int32) × Int32 × Int32 × Int32) ⊕ ((Nat → Int32) × (Nat → Int32) × Int32 × Int32 × Int32))), f_X4_littleChange_L41 N x1 x2 q9 x4_31 n_41 x5_41 zs_41 zmeasure_41 zmost1_41 zmost3_41 zmost5_41 = some q35 → (∀ (t36 : (Nat → Int32) × (Nat → Int32) × Int32 × Int32 × Int32), q35 = .inr t36 → ∀ (ls : Array Slot) (H : Heap) (locs : List Loc), lv_has ls 7 [(0, .ref a0), (1, .int x1), (2, .int x2), (3, .int q9), (4, .int x4_31)] → va_P D vwCl [(a0, .inr (3, [.ref a_s, .ref a_past, .ref a_kept, .int zisKept, .int zpasts, .ref a_text, .int ztyped, .ref a_measure, .int t36.2.2.1, .int t36.2.2.2.1, .int t36.2.2.2.2, .ref a_chosen, .ref a_ways, .int zspot, .int zreason, .int zplaces, .ref a_owners, .ref a_ranks, .ref a_sets, .ref a_toldAt, .ref a_line])), (a_s, .inl (cI, 37, .inl t36.1)), (a_measure, .inl (cI, 12, .inl t36.2.1))] H → va_D A [(a0, .inr (3, [.ref a_s, .ref a_past, .ref a_kept, .int zisKept, .int zpasts, .ref a_text, .int ztyped, .ref a_measure, .int t36.2.2.1, .int t36.2.2.2.1, .int t36.2.2.2.2, .ref a_chosen, .ref a_ways, .int zspot, .int zreason, .int zplaces, .ref a_owners, .ref a_ranks, .ref a_sets, .ref a_toldAt, .ref a_line])), (a_s, .inl (cI, 37, .inl t36.1)), (a_measure, .inl (cI, 12, .inl t36.2.1))] → va_S A s.heap H locs → W p l e (rmm 4 100) s m args below meth c H locs 0 0 Q (F0 m 149 ls [])) → (∀ r9, q35 = .inl r9 → r9 = y) → ∀ (ls : Array Slot) (H : Heap) (locs : List Loc), lv_has ls 7 [(0, .ref a0), (1, .int x1), (2, .int x2), (3, .int q9), (4, .int x4_31), (5, .int x5_41)] → va_P D vwCl [(a0, .inr (3, [.ref a_s, .ref a_past, .ref a_kept, .int zisKept, .int zpasts, .ref a_text, .int ztyped, .ref a_measure, .int zmost1_41, .int zmost3_41, .int zmost5_41, .ref a_chosen, .ref a_ways, .int zspot, .int zreason, .int zplaces, .ref a_owners, .ref a_ranks, .ref a_sets, .ref a_toldAt, .ref a_line])), (a_s, .inl (cI, 37, .inl zs_41)), (a_measure, .inl (cI, 12, .inl zmeasure_41))] H → va_D A [(a0, .inr (3, [.ref a_s, .ref a_past, .ref a_kept, .int zisKept, .int zpasts, .ref a_text, .int ztyped, .ref a_measure, .int zmost1_41, .int zmost3_41, .int zmost5_41, .ref a_chosen, .ref a_ways, .int zspot, .int zreason, .int zplaces, .ref a_owners, .ref a_ranks, .ref a_sets, .ref a_toldAt, .ref a_line])), (a_s, .inl (cI, 37, .inl zs_41)), (a_measure, .inl (cI, 12, .inl zmeasure_41))] → va_S A s.heap H locs → W p l e (rmm 4 100) s m args below meth c H locs 0 0 Q (F0 m 41 ls []) := by
              intro  n_41
              induction n_41 with
              | zero => intro x5_41 zs_41 zmeasure_41 zmost1_41 zmost3_41 zmost5_41 q35 h; exact no_s h
              | succ n_41 ih_41 =>
                intro x5_41 zs_41 zmeasure_41 zmost1_41 zmost3_41 zmost5_41 q35 h J_41 hr_41 ls H locs hl hP hD hS
                rw [f_X4_littleChange_L41] at h
                refine lv_iload hx hb dX4_littleChange_41 (lv_at hl 5 rfl) ?_
                refine lv_aload_n hx hb dX4_littleChange_43 rfl (lv_at hl 0 rfl) ?_
                refine va_get (D := D) (ci := 3) (v := .ref a_s) (C := RX4) (T := TX4) (N := 21) hx hb hts inG4 hown hK hP 0 rfl rfl 0 (by decide) (hts _ wd2_152) (fun _ h9 => h9) rfl dX4_littleChange_44 ?_
                refine lv_iconst (v := 0) hx hb dX4_littleChange_47 (by decide) ?_
                obtain ⟨g12, h⟩ := chk_s h
                refine va_iald hx hb hK hP 1 0 rfl rfl (gi_in g12) dX4_littleChange_48 ?_
                refine lv_icmp_ge (tgt := 149) hx hb dX4_littleChange_49 (by decide) (fun c13 => ?_) (fun c13 => ?_)
                · have h := itT h c13
                  obtain rfl := Option.some.inj h
                  exact J_41 _ rfl _ _ _ (lv_sub hl [0, 1, 2, 3, 4] rfl) hP hD hS
                · have h := itF h c13
                  refine lv_aload_n hx hb dX4_littleChange_52 rfl (lv_at hl 0 rfl) ?_
                  refine va_get (D := D) (ci := 3) (v := .ref a_s) (C := RX4) (T := TX4) (N := 21) hx hb hts inG4 hown hK hP 0 rfl rfl 0 (by decide) (hts _ wd2_152) (fun _ h9 => h9) rfl dX4_littleChange_53 ?_
                  refine lv_bipush (v := 13) hx hb dX4_littleChange_56 (by decide) ?_
                  refine lv_iload hx hb dX4_littleChange_58 (lv_at hl 5 rfl) ?_
                  refine lv_iadd hx hb dX4_littleChange_60 ?_
                  obtain ⟨g14, h⟩ := chk_s h
                  refine va_iald hx hb hK hP 1 0 rfl rfl (gi_in g14) dX4_littleChange_61 ?_
                  refine lv_istore (lv' := [(6, .int (zs_41 (Int32.toNatClampNeg (13 + x5_41)))), (0, .ref a0), (1, .int x1), (2, .int x2), (3, .int q9), (4, .int x4_31), (5, .int x5_41)]) hx hb dX4_littleChange_62 hl (by decide) rfl (fun ls hl => ?_)
                  refine lv_iload hx hb dX4_littleChange_64 (lv_at hl 0 rfl) ?_
                  refine lv_iload hx hb dX4_littleChange_66 (lv_at hl 5 rfl) ?_
                  obtain ⟨q16, hb34, h⟩ := bd h
                  have J18 : ∀ t17, q16 = .inr t17 → ∀ (ls : Array Slot) (H : Heap) (locs : List Loc), lv_has ls 7 [(0, .ref a0), (1, .int x1), (2, .int x2), (3, .int q9), (4, .int x4_31), (5, .int x5_41), (6, .int (zs_41 (Int32.toNatClampNeg (13 + x5_41))))] → va_P D vwCl [(a0, .inr (3, [.ref a_s, .ref a_past, .ref a_kept, .int zisKept, .int zpasts, .ref a_text, .int ztyped, .ref a_measure, .int t17.2.2.1, .int t17.2.2.2.1, .int t17.2.2.2.2, .ref a_chosen, .ref a_ways, .int zspot, .int zreason, .int zplaces, .ref a_owners, .ref a_ranks, .ref a_sets, .ref a_toldAt, .ref a_line])), (a_s, .inl (cI, 37, .inl t17.1)), (a_measure, .inl (cI, 12, .inl t17.2.1))] H → va_D A [(a0, .inr (3, [.ref a_s, .ref a_past, .ref a_kept, .int zisKept, .int zpasts, .ref a_text, .int ztyped, .ref a_measure, .int t17.2.2.1, .int t17.2.2.2.1, .int t17.2.2.2.2, .ref a_chosen, .ref a_ways, .int zspot, .int zreason, .int zplaces, .ref a_owners, .ref a_ranks, .ref a_sets, .ref a_toldAt, .ref a_line])), (a_s, .inl (cI, 37, .inl t17.1)), (a_measure, .inl (cI, 12, .inl t17.2.1))] → va_S A s.heap H locs → W p l e (rmm 4 100) s m args below meth c H locs 0 0 Q (F0 m 102 ls []) := by
                    intro t17 e9 ls H locs hl hP hD hS
                    rw [e9] at h
                    have h := sm_r h
                    refine lv_iload hx hb dX4_littleChange_102 (lv_at hl 6 rfl) ?_
                    refine lv_iload hx hb dX4_littleChange_104 (lv_at hl 4 rfl) ?_
                    refine lv_iadd hx hb dX4_littleChange_106 ?_
                    refine lv_bipush (v := 6) hx hb dX4_littleChange_107 (by decide) ?_
                    obtain ⟨q25, hb33, h⟩ := bd h
                    have J27 : ∀ t26, q25 = .inr t26 → ∀ (ls : Array Slot) (H : Heap) (locs : List Loc), lv_has ls 7 [(0, .ref a0), (1, .int x1), (2, .int x2), (3, .int q9), (4, .int x4_31), (5, .int x5_41)] → va_P D vwCl [(a0, .inr (3, [.ref a_s, .ref a_past, .ref a_kept, .int zisKept, .int zpasts, .ref a_text, .int ztyped, .ref a_measure, .int t26.2.2.1, .int t26.2.2.2.1, .int t26.2.2.2.2, .ref a_chosen, .ref a_ways, .int zspot, .int zreason, .int zplaces, .ref a_owners, .ref a_ranks, .ref a_sets, .ref a_toldAt, .ref a_line])), (a_s, .inl (cI, 37, .inl t26.1)), (a_measure, .inl (cI, 12, .inl t26.2.1))] H → va_D A [(a0, .inr (3, [.ref a_s, .ref a_past, .ref a_kept, .int zisKept, .int zpasts, .ref a_text, .int ztyped, .ref a_measure, .int t26.2.2.1, .int t26.2.2.2.1, .int t26.2.2.2.2, .ref a_chosen, .ref a_ways, .int zspot, .int zreason, .int zplaces, .ref a_owners, .ref a_ranks, .ref a_sets, .ref a_toldAt, .ref a_line])), (a_s, .inl (cI, 37, .inl t26.1)), (a_measure, .inl (cI, 12, .inl t26.2.1))] → va_S A s.heap H locs → W p l e (rmm 4 100) s m args below meth c H locs 0 0 Q (F0 m 143 ls []) := by
                      intro t26 e9 ls H locs hl hP hD hS
                      rw [e9] at h
                      have h := sm_r h
                      refine lv_iinc (v := x5_41 + 1) (lv' := [(5, .int (x5_41 + 1)), (0, .ref a0), (1, .int x1), (2, .int x2), (3, .int q9), (4, .int x4_31)]) hx hb dX4_littleChange_143 hl (k := 5) rfl rfl (by decide) rfl (fun ls hl => ?_)
                      refine lv_goto (tgt := 41) hx hb dX4_littleChange_146 (by decide) ?_
                      exact ih_41 (x5_41 + 1) t26.1 t26.2.1 t26.2.2.1 t26.2.2.2.1 t26.2.2.2.2 _ h J_41 hr_41 _ _ _ (lv_sub hl [1, 2, 3, 4, 5, 0] rfl) hP hD hS
                    have hr28 : ∀ r9, q25 = .inl r9 → r9 = y := by
                      intro r9 e9
                      rw [e9] at h
                      exact hr_41 _ (Option.some.inj h).symm
                    clear h
                    have h := hb33
                    clear hb33
                    refine lv_icmp_ge (tgt := 143) hx hb dX4_littleChange_109 (by decide) (fun c24 => ?_) (fun c24 => ?_)
                    · have h := itT h c24
                      obtain rfl := Option.some.inj h
                      exact J27 _ rfl _ _ _ (lv_sub hl [0, 1, 2, 3, 4, 5] rfl) hP hD hS
                    · have h := itF h c24
                      refine lv_aload_n hx hb dX4_littleChange_112 rfl (lv_at hl 0 rfl) ?_
                      refine lv_iload_n hx hb dX4_littleChange_113 rfl (lv_at hl 1 rfl) ?_
                      refine lv_iload_n hx hb dX4_littleChange_114 rfl (lv_at hl 3 rfl) ?_
                      refine lv_iload hx hb dX4_littleChange_115 (lv_at hl 5 rfl) ?_
                      refine lv_iload hx hb dX4_littleChange_117 (lv_at hl 6 rfl) ?_
                      refine lv_iload hx hb dX4_littleChange_119 (lv_at hl 4 rfl) ?_
                      refine lv_iadd hx hb dX4_littleChange_121 ?_
                      obtain ⟨q29, hq30, h⟩ := bd h
                      refine kvI (ws' := [(a0, .inr (3, [.ref a_s, .ref a_past, .ref a_kept, .int zisKept, .int zpasts, .ref a_text, .int ztyped, .ref a_measure, .int q29.2.2.2.1, .int q29.2.2.2.2.1, .int q29.2.2.2.2.2, .ref a_chosen, .ref a_ways, .int zspot, .int zreason, .int zplaces, .ref a_owners, .ref a_ranks, .ref a_sets, .ref a_toldAt, .ref a_line])), (a_s, .inl (cI, 37, .inl q29.2.1)), (a_measure, .inl (cI, 12, .inl q29.2.2.1))]) (wr := []) (As := [.int x1, .int q9, .int x5_41, .int ((zs_41 (Int32.toNatClampNeg (13 + x5_41))) + x4_31)]) F (c_X4_turns l D cI cC cH a0 a_s a_past a_kept a_text a_measure a_chosen a_ways a_owners a_ranks a_sets a_toldAt a_line N x1 q9 x5_41 ((zs_41 (Int32.toNatClampNeg (13 + x5_41))) + x4_31) t17.1 zisKept zpasts ztyped t17.2.1 t17.2.2.1 t17.2.2.2.1 t17.2.2.2.2 zspot zreason zplaces q29 hq30) yfX4_turns ⟨wd3_117, wd3_119, wdp_36⟩ hP hD hS [0, 1, 2] [] [0, 1, 2] rfl rfl (by decide) (by decide) (by decide) rfl (by decide) 0 3 rfl rfl rfl ⟨Nat.le_of_ble_eq_true rfl, Nat.le_of_ble_eq_true rfl, Nat.zero_le _, Nat.zero_le _⟩ rfl hl rfl (Nat.le_of_ble_eq_true rfl) dX4_littleChange_122 (fun H locs hP hD hS => ?_)
                      refine lv_if_eq (tgt := 143) hx hb dX4_littleChange_125 (by decide) (fun c31 => ?_) (fun c31 => ?_)
                      · have h := itT h c31
                        obtain rfl := Option.some.inj h
                        exact J27 _ rfl _ _ _ (lv_sub hl [0, 1, 2, 3, 4, 5] rfl) hP hD hS
                      · have h := itF h c31
                        refine lv_iload_n hx hb dX4_littleChange_128 rfl (lv_at hl 2 rfl) ?_
                        refine lv_if_ne (tgt := 137) hx hb dX4_littleChange_129 (by decide) (fun c32 => ?_) (fun c32 => ?_)
                        · have h := itF h c32
                          refine lv_iload hx hb dX4_littleChange_137 (lv_at hl 6 rfl) ?_
                          refine lv_iload hx hb dX4_littleChange_139 (lv_at hl 4 rfl) ?_
                          refine lv_iadd hx hb dX4_littleChange_141 ?_
                          obtain rfl := Option.some.inj h
                          obtain rfl := hr28 _ rfl
                          exact hret _ _ _ _ _ rfl hP hD hS dX4_littleChange_142
                        · have h := itT h c32
                          refine lv_iload hx hb dX4_littleChange_132 (lv_at hl 5 rfl) ?_
                          refine lv_goto (tgt := 142) hx hb dX4_littleChange_134 (by decide) ?_
                          obtain rfl := Option.some.inj h
                          obtain rfl := hr28 _ rfl
                          exact hret _ _ _ _ _ rfl hP hD hS dX4_littleChange_142
                  have hr19 : ∀ r9, q16 = .inl r9 → r9 = y := by
                    intro r9 e9
                    rw [e9] at h
                    exact hr_41 _ (Option.some.inj h).symm
                  clear h
                  have h := hb34
                  clear hb34
                  refine lv_icmp_lt (tgt := 102) hx hb dX4_littleChange_68 (by decide) (fun c15 => ?_) (fun c15 => ?_)
                  · have h := itT h c15
                    obtain rfl := Option.some.inj h
                    exact J18 _ rfl _ _ _ (lv_sub hl [1, 2, 3, 4, 5, 6, 0] rfl) hP hD hS
                  · have h := itF h c15
                    refine lv_aload_n hx hb dX4_littleChange_71 rfl (lv_at hl 1 rfl) ?_
                    refine lv_iload_n hx hb dX4_littleChange_72 rfl (lv_at hl 2 rfl) ?_
                    refine lv_iload_n hx hb dX4_littleChange_73 rfl (lv_at hl 4 rfl) ?_
                    refine lv_iload hx hb dX4_littleChange_74 (lv_at hl 6 rfl) ?_
                    refine lv_iload hx hb dX4_littleChange_76 (lv_at hl 0 rfl) ?_
                    refine lv_iload hx hb dX4_littleChange_78 (lv_at hl 5 rfl) ?_
                    refine lv_isub hx hb dX4_littleChange_80 ?_
                    obtain ⟨q20, hq21, h⟩ := bd h
                    refine kvI (ws' := [(a0, .inr (3, [.ref a_s, .ref a_past, .ref a_kept, .int zisKept, .int zpasts, .ref a_text, .int ztyped, .ref a_measure, .int q20.2.2.2.1, .int q20.2.2.2.2.1, .int q20.2.2.2.2.2, .ref a_chosen, .ref a_ways, .int zspot, .int zreason, .int zplaces, .ref a_owners, .ref a_ranks, .ref a_sets, .ref a_toldAt, .ref a_line])), (a_s, .inl (cI, 37, .inl q20.2.1)), (a_measure, .inl (cI, 12, .inl q20.2.2.1))]) (wr := []) (As := [.int x1, .int q9, .int x5_41, .int ((zs_41 (Int32.toNatClampNeg (13 + x5_41))) - x4_31)]) F (c_X4_turns l D cI cC cH a0 a_s a_past a_kept a_text a_measure a_chosen a_ways a_owners a_ranks a_sets a_toldAt a_line N x1 q9 x5_41 ((zs_41 (Int32.toNatClampNeg (13 + x5_41))) - x4_31) zs_41 zisKept zpasts ztyped zmeasure_41 zmost1_41 zmost3_41 zmost5_41 zspot zreason zplaces q20 hq21) yfX4_turns ⟨wd3_117, wd3_119, wdp_36⟩ hP hD hS [0, 1, 2] [] [0, 1, 2] rfl rfl (by decide) (by decide) (by decide) rfl (by decide) 0 3 rfl rfl rfl ⟨Nat.le_of_ble_eq_true rfl, Nat.le_of_ble_eq_true rfl, Nat.zero_le _, Nat.zero_le _⟩ rfl hl rfl (Nat.le_of_ble_eq_true rfl) dX4_littleChange_81 (fun H locs hP hD hS => ?_)
                    refine lv_if_eq (tgt := 102) hx hb dX4_littleChange_84 (by decide) (fun c22 => ?_) (fun c22 => ?_)
                    · have h := itT h c22
                      obtain rfl := Option.some.inj h
                      exact J18 _ rfl _ _ _ (lv_sub hl [1, 2, 3, 4, 5, 6, 0] rfl) hP hD hS
                    · have h := itF h c22
                      refine lv_iload_n hx hb dX4_littleChange_87 rfl (lv_at hl 3 rfl) ?_
                      refine lv_if_ne (tgt := 96) hx hb dX4_littleChange_88 (by decide) (fun c23 => ?_) (fun c23 => ?_)
                      · have h := itF h c23
                        refine lv_iload hx hb dX4_littleChange_96 (lv_at hl 0 rfl) ?_
                        refine lv_iload hx hb dX4_littleChange_98 (lv_at hl 5 rfl) ?_
                        refine lv_isub hx hb dX4_littleChange_100 ?_
                        obtain rfl := Option.some.inj h
                        obtain rfl := hr19 _ rfl
                        exact hret _ _ _ _ _ rfl hP hD hS dX4_littleChange_101
                      · have h := itT h c23
                        refine lv_iload hx hb dX4_littleChange_91 (lv_at hl 6 rfl) ?_
                        refine lv_goto (tgt := 101) hx hb dX4_littleChange_93 (by decide) ?_
                        obtain rfl := Option.some.inj h
                        obtain rfl := hr19 _ rfl
                        exact hret _ _ _ _ _ rfl hP hD hS dX4_littleChange_101
            obtain ⟨q37, hb39, h⟩ := bd h
            have hr40 : ∀ r9, q37 = .inl r9 → r9 = y := by
              intro r9 e9
              rw [e9] at h
              exact hr_31 _ (Option.some.inj h).symm
            refine L_41 N 0 zs_31 zmeasure_31 zmost1_31 zmost3_31 zmost5_31 q37 hb39 ?_ hr40 _ _ _ (lv_sub hl [1, 2, 3, 4, 5, 0] rfl) hP hD hS
            intro t38 e9 ls H locs hl hP hD hS
            rw [e9] at h
            have h := sm_r h
            refine lv_iinc (v := x4_31 + 1) (lv' := [(4, .int (x4_31 + 1)), (0, .ref a0), (1, .int x1), (2, .int x2), (3, .int q9)]) hx hb dX4_littleChange_149 hl (k := 4) rfl rfl (by decide) rfl (fun ls hl => ?_)
            refine lv_goto (tgt := 31) hx hb dX4_littleChange_152 (by decide) ?_
            exact ih_31 (x4_31 + 1) t38.1 t38.2.1 t38.2.2.1 t38.2.2.2.1 t38.2.2.2.2 _ h J_31 hr_31 _ _ _ (lv_sub hl [1, 2, 3, 4, 0] rfl) hP hD hS
      obtain ⟨q43, hb45, h⟩ := bd h
      have hr46 : ∀ r9, q43 = .inl r9 → r9 = y := by
        intro r9 e9
        rw [e9] at h
        exact Option.some.inj h
      refine L_31 N 1 zs q7.2.1 q7.2.2.1 q7.2.2.2.1 q7.2.2.2.2 q43 hb45 ?_ hr46 _ _ _ (lv_sub hl [2, 3, 4, 1, 0] rfl) hP hD hS
      intro t44 e9 ls H locs hl hP hD hS
      rw [e9] at h
      have h := sm_r h
      refine lv_bipush (v := (-4)) hx hb dX4_littleChange_155 (by decide) ?_
      obtain rfl := Option.some.inj h
      exact hret _ _ _ _ _ rfl hP hD hS dX4_littleChange_157
    · have h := itT h c6
      refine lv_iconst (v := (-1)) hx hb dX4_littleChange_17 (by decide) ?_
      obtain rfl := Option.some.inj h
      exact hret _ _ _ _ _ rfl hP hD hS dX4_littleChange_18
def f_X4_keep (N : Nat) (zs : Nat → Int32) (zkept : Nat → Int32) (zisKept : Int32) : Option (Int32 × (Nat → Int32) × Int32) :=
    Option.bind (f_X4_copies N zs zkept) (fun q1 => chk (gi 0 37) (some (zs (Int32.toNatClampNeg 0), q1, 1)))
set_option maxHeartbeats 4000000 in
set_option maxRecDepth 100000 in
theorem c_X4_keep (l : Launch) (D : va_G) (cI cC cH : ClassId) (a0 : Nat) (a_s : Nat) (a_past : Nat) (a_kept : Nat) (a_text : Nat) (a_measure : Nat) (a_chosen : Nat) (a_ways : Nat) (a_owners : Nat) (a_ranks : Nat) (a_sets : Nat) (a_toldAt : Nat) (a_line : Nat) (N : Nat) (zs : Nat → Int32) (zkept : Nat → Int32) (zisKept : Int32) (zpasts : Int32) (ztyped : Int32) (zmost1 : Int32) (zmost3 : Int32) (zmost5 : Int32) (zspot : Int32) (zreason : Int32) (zplaces : Int32) (y : Int32 × (Nat → Int32) × Int32) (h : f_X4_keep N zs zkept zisKept = some y) : CTi l yX4_keep cX4_keep 1 (some .int) 1 22 D (tyL cI cC cH) [.ref a0] [(a0, .inr (3, [.ref a_s, .ref a_past, .ref a_kept, .int zisKept, .int zpasts, .ref a_text, .int ztyped, .ref a_measure, .int zmost1, .int zmost3, .int zmost5, .ref a_chosen, .ref a_ways, .int zspot, .int zreason, .int zplaces, .ref a_owners, .ref a_ranks, .ref a_sets, .ref a_toldAt, .ref a_line])), (a_s, .inl (cI, 37, .inl zs)), (a_kept, .inl (cI, 37, .inl zkept))] [(a0, .inr (3, [.ref a_s, .ref a_past, .ref a_kept, .int y.2.2, .int zpasts, .ref a_text, .int ztyped, .ref a_measure, .int zmost1, .int zmost3, .int zmost5, .ref a_chosen, .ref a_ways, .int zspot, .int zreason, .int zplaces, .ref a_owners, .ref a_ranks, .ref a_sets, .ref a_toldAt, .ref a_line])), (a_s, .inl (cI, 37, .inl zs)), (a_kept, .inl (cI, 37, .inl y.2.1))] y.1 := by
  unfold f_X4_keep at h
  refine ctI (by decide) (Nat.le_of_ble_eq_true rfl) ?_
  intro p e s m args below meth c A Q ls F hret hP hD hS hl
  have hx := F.1
  have hb := F.2.1
  have hown : s.vm.findClass RX4 = some m.cls := F.2.2.2.1
  have hts := F.2.2.2.2.1
  have hN := F.2.2.2.2.2.1
  have hK := F.2.2.2.2.2.2.1
  have hl : lv_has ls 1 [(0, .ref a0)] := hl
  refine lv_aload_n hx hb dX4_keep_0 rfl (lv_at hl 0 rfl) ?_
  refine va_get (D := D) (ci := 3) (v := .ref a_s) (C := RX4) (T := TX4) (N := 21) hx hb hts inG4 hown hK hP 0 rfl rfl 0 (by decide) (hts _ wd2_152) (fun _ h9 => h9) rfl dX4_keep_1 ?_
  refine lv_aload_n hx hb dX4_keep_4 rfl (lv_at hl 0 rfl) ?_
  refine va_get (D := D) (ci := 3) (v := .ref a_kept) (C := RX4) (T := TX4) (N := 21) hx hb hts inG4 hown hK hP 0 rfl rfl 2 (by decide) (hts _ wd2_154) (fun _ h9 => h9) rfl dX4_keep_5 ?_
  obtain ⟨q1, hq2, h⟩ := bd h
  refine ksV (ws' := [(a0, .inr (3, [.ref a_s, .ref a_past, .ref a_kept, .int zisKept, .int zpasts, .ref a_text, .int ztyped, .ref a_measure, .int zmost1, .int zmost3, .int zmost5, .ref a_chosen, .ref a_ways, .int zspot, .int zreason, .int zplaces, .ref a_owners, .ref a_ranks, .ref a_sets, .ref a_toldAt, .ref a_line])), (a_s, .inl (cI, 37, .inl zs)), (a_kept, .inl (cI, 37, .inl q1))]) (wr := [(a0, .inr (3, [.ref a_s, .ref a_past, .ref a_kept, .int zisKept, .int zpasts, .ref a_text, .int ztyped, .ref a_measure, .int zmost1, .int zmost3, .int zmost5, .ref a_chosen, .ref a_ways, .int zspot, .int zreason, .int zplaces, .ref a_owners, .ref a_ranks, .ref a_sets, .ref a_toldAt, .ref a_line]))]) (As := [.ref a_s, .ref a_kept]) F (c_X4_copies l D cI cC cH a_s a_kept N zs zkept q1 hq2) yfX4_copies ⟨wd3_125, wd3_126⟩ hP hD hS [1, 2] [0] [0, 1, 2] rfl rfl (by decide) (by decide) (by decide) rfl (by decide) ⟨Nat.le_of_ble_eq_true rfl, Nat.le_of_ble_eq_true rfl, Nat.zero_le _, Nat.zero_le _⟩ rfl hl rfl (Nat.le_of_ble_eq_true rfl) dX4_keep_8 (fun H locs hP hD hS => ?_)
  refine lv_aload_n hx hb dX4_keep_11 rfl (lv_at hl 0 rfl) ?_
  refine lv_iconst (v := 1) hx hb dX4_keep_12 (by decide) ?_
  refine va_put (D := D) (ci := 3) (v := .int 1) (ty := .boolean) (C := RX4) (T := TX4) (N := 21) hx hb hts inG4 tyX4 tyX4_ok nmX4 hown hK hP hD hS 0 rfl rfl 3 (by decide) (hts _ wd2_155) (fun _ h9 => h9) rfl (by decide +kernel) rfl rfl (Nat.le_of_ble_eq_true rfl) dX4_keep_13 (fun H locs hP hD hS => ?_)
  have hP : va_P D vwCl [(a0, .inr (3, [.ref a_s, .ref a_past, .ref a_kept, .int 1, .int zpasts, .ref a_text, .int ztyped, .ref a_measure, .int zmost1, .int zmost3, .int zmost5, .ref a_chosen, .ref a_ways, .int zspot, .int zreason, .int zplaces, .ref a_owners, .ref a_ranks, .ref a_sets, .ref a_toldAt, .ref a_line])), (a_s, .inl (cI, 37, .inl zs)), (a_kept, .inl (cI, 37, .inl q1))] H := hP
  have hD : va_D A [(a0, .inr (3, [.ref a_s, .ref a_past, .ref a_kept, .int 1, .int zpasts, .ref a_text, .int ztyped, .ref a_measure, .int zmost1, .int zmost3, .int zmost5, .ref a_chosen, .ref a_ways, .int zspot, .int zreason, .int zplaces, .ref a_owners, .ref a_ranks, .ref a_sets, .ref a_toldAt, .ref a_line])), (a_s, .inl (cI, 37, .inl zs)), (a_kept, .inl (cI, 37, .inl q1))] := hD
  refine lv_aload_n hx hb dX4_keep_16 rfl (lv_at hl 0 rfl) ?_
  refine va_get (D := D) (ci := 3) (v := .ref a_s) (C := RX4) (T := TX4) (N := 21) hx hb hts inG4 hown hK hP 0 rfl rfl 0 (by decide) (hts _ wd2_152) (fun _ h9 => h9) rfl dX4_keep_17 ?_
  refine lv_iconst (v := 0) hx hb dX4_keep_20 (by decide) ?_
  obtain ⟨g3, h⟩ := chk_s h
  refine va_iald hx hb hK hP 1 0 rfl rfl (gi_in g3) dX4_keep_21 ?_
  obtain rfl := Option.some.inj h
  exact hret _ _ _ _ _ rfl hP hD hS dX4_keep_22
def f_X4_restore (N : Nat) (zs : Nat → Int32) (zpast : Nat → Int32) (zkept : Nat → Int32) (zisKept : Int32) (zpasts : Int32) : Option (Int32 × (Nat → Int32) × (Nat → Int32) × Int32) :=
    if zisKept = 0 then (some ((-2), zs, zpast, zpasts)) else (Option.bind (f_X4_changes N zs zpast zpasts) (fun q2 => Option.bind (f_X4_copies N zkept zs) (fun q4 => chk (gi 0 37) (some (q4 (Int32.toNatClampNeg 0), q4, q2.1, q2.2)))))
set_option maxHeartbeats 4000000 in
set_option maxRecDepth 100000 in
theorem c_X4_restore (l : Launch) (D : va_G) (cI cC cH : ClassId) (a0 : Nat) (a_s : Nat) (a_past : Nat) (a_kept : Nat) (a_text : Nat) (a_measure : Nat) (a_chosen : Nat) (a_ways : Nat) (a_owners : Nat) (a_ranks : Nat) (a_sets : Nat) (a_toldAt : Nat) (a_line : Nat) (N : Nat) (zs : Nat → Int32) (zpast : Nat → Int32) (zkept : Nat → Int32) (zisKept : Int32) (zpasts : Int32) (ztyped : Int32) (zmost1 : Int32) (zmost3 : Int32) (zmost5 : Int32) (zspot : Int32) (zreason : Int32) (zplaces : Int32) (y : Int32 × (Nat → Int32) × (Nat → Int32) × Int32) (h : f_X4_restore N zs zpast zkept zisKept zpasts = some y) : CTi l yX4_restore cX4_restore 1 (some .int) 1 22 D (tyL cI cC cH) [.ref a0] [(a0, .inr (3, [.ref a_s, .ref a_past, .ref a_kept, .int zisKept, .int zpasts, .ref a_text, .int ztyped, .ref a_measure, .int zmost1, .int zmost3, .int zmost5, .ref a_chosen, .ref a_ways, .int zspot, .int zreason, .int zplaces, .ref a_owners, .ref a_ranks, .ref a_sets, .ref a_toldAt, .ref a_line])), (a_s, .inl (cI, 37, .inl zs)), (a_past, .inl (cI, 148, .inl zpast)), (a_kept, .inl (cI, 37, .inl zkept))] [(a0, .inr (3, [.ref a_s, .ref a_past, .ref a_kept, .int zisKept, .int y.2.2.2, .ref a_text, .int ztyped, .ref a_measure, .int zmost1, .int zmost3, .int zmost5, .ref a_chosen, .ref a_ways, .int zspot, .int zreason, .int zplaces, .ref a_owners, .ref a_ranks, .ref a_sets, .ref a_toldAt, .ref a_line])), (a_s, .inl (cI, 37, .inl y.2.1)), (a_past, .inl (cI, 148, .inl y.2.2.1)), (a_kept, .inl (cI, 37, .inl zkept))] y.1 := by
  unfold f_X4_restore at h
  refine ctI (by decide) (Nat.le_of_ble_eq_true rfl) ?_
  intro p e s m args below meth c A Q ls F hret hP hD hS hl
  have hx := F.1
  have hb := F.2.1
  have hown : s.vm.findClass RX4 = some m.cls := F.2.2.2.1
  have hts := F.2.2.2.2.1
  have hN := F.2.2.2.2.2.1
  have hK := F.2.2.2.2.2.2.1
  have hl : lv_has ls 1 [(0, .ref a0)] := hl
  refine lv_aload_n hx hb dX4_restore_0 rfl (lv_at hl 0 rfl) ?_
  refine va_get (D := D) (ci := 3) (v := .int zisKept) (C := RX4) (T := TX4) (N := 21) hx hb hts inG4 hown hK hP 0 rfl rfl 3 (by decide) (hts _ wd2_155) (fun _ h9 => h9) rfl dX4_restore_1 ?_
  refine lv_if_ne (tgt := 10) hx hb dX4_restore_4 (by decide) (fun c1 => ?_) (fun c1 => ?_)
  · have h := itF h c1
    refine lv_aload_n hx hb dX4_restore_10 rfl (lv_at hl 0 rfl) ?_
    obtain ⟨q2, hq3, h⟩ := bd h
    refine kvV (ws' := [(a0, .inr (3, [.ref a_s, .ref a_past, .ref a_kept, .int zisKept, .int q2.2, .ref a_text, .int ztyped, .ref a_measure, .int zmost1, .int zmost3, .int zmost5, .ref a_chosen, .ref a_ways, .int zspot, .int zreason, .int zplaces, .ref a_owners, .ref a_ranks, .ref a_sets, .ref a_toldAt, .ref a_line])), (a_s, .inl (cI, 37, .inl zs)), (a_past, .inl (cI, 148, .inl q2.1)), (a_kept, .inl (cI, 37, .inl zkept))]) (wr := [(a_kept, .inl (cI, 37, .inl zkept))]) (As := []) F (c_X4_changes l D cI cC cH a0 a_s a_past a_kept a_text a_measure a_chosen a_ways a_owners a_ranks a_sets a_toldAt a_line N zs zpast zisKept zpasts ztyped zmost1 zmost3 zmost5 zspot zreason zplaces q2 hq3) yfX4_changes ⟨wd2_223, wd2_225, wdp_19⟩ hP hD hS [0, 1, 2] [3] [1, 2, 3, 0] rfl rfl (by decide) (by decide) (by decide) rfl (by decide) 0 3 rfl rfl rfl ⟨Nat.le_of_ble_eq_true rfl, Nat.le_of_ble_eq_true rfl, Nat.zero_le _, Nat.zero_le _⟩ rfl hl rfl (Nat.le_of_ble_eq_true rfl) dX4_restore_11 (fun H locs hP hD hS => ?_)
    refine lv_aload_n hx hb dX4_restore_14 rfl (lv_at hl 0 rfl) ?_
    refine va_get (D := D) (ci := 3) (v := .ref a_kept) (C := RX4) (T := TX4) (N := 21) hx hb hts inG4 hown hK hP 0 rfl rfl 2 (by decide) (hts _ wd2_154) (fun _ h9 => h9) rfl dX4_restore_15 ?_
    refine lv_aload_n hx hb dX4_restore_18 rfl (lv_at hl 0 rfl) ?_
    refine va_get (D := D) (ci := 3) (v := .ref a_s) (C := RX4) (T := TX4) (N := 21) hx hb hts inG4 hown hK hP 0 rfl rfl 0 (by decide) (hts _ wd2_152) (fun _ h9 => h9) rfl dX4_restore_19 ?_
    obtain ⟨q4, hq5, h⟩ := bd h
    refine ksV (ws' := [(a0, .inr (3, [.ref a_s, .ref a_past, .ref a_kept, .int zisKept, .int q2.2, .ref a_text, .int ztyped, .ref a_measure, .int zmost1, .int zmost3, .int zmost5, .ref a_chosen, .ref a_ways, .int zspot, .int zreason, .int zplaces, .ref a_owners, .ref a_ranks, .ref a_sets, .ref a_toldAt, .ref a_line])), (a_s, .inl (cI, 37, .inl q4)), (a_past, .inl (cI, 148, .inl q2.1)), (a_kept, .inl (cI, 37, .inl zkept))]) (wr := [(a0, .inr (3, [.ref a_s, .ref a_past, .ref a_kept, .int zisKept, .int q2.2, .ref a_text, .int ztyped, .ref a_measure, .int zmost1, .int zmost3, .int zmost5, .ref a_chosen, .ref a_ways, .int zspot, .int zreason, .int zplaces, .ref a_owners, .ref a_ranks, .ref a_sets, .ref a_toldAt, .ref a_line])), (a_past, .inl (cI, 148, .inl q2.1))]) (As := [.ref a_kept, .ref a_s]) F (c_X4_copies l D cI cC cH a_kept a_s N zkept zs q4 hq5) yfX4_copies ⟨wd3_125, wd3_126⟩ hP hD hS [3, 1] [0, 2] [0, 3, 1, 2] rfl rfl (by decide) (by decide) (by decide) rfl (by decide) ⟨Nat.le_of_ble_eq_true rfl, Nat.le_of_ble_eq_true rfl, Nat.zero_le _, Nat.zero_le _⟩ rfl hl rfl (Nat.le_of_ble_eq_true rfl) dX4_restore_22 (fun H locs hP hD hS => ?_)
    refine lv_aload_n hx hb dX4_restore_25 rfl (lv_at hl 0 rfl) ?_
    refine va_get (D := D) (ci := 3) (v := .ref a_s) (C := RX4) (T := TX4) (N := 21) hx hb hts inG4 hown hK hP 0 rfl rfl 0 (by decide) (hts _ wd2_152) (fun _ h9 => h9) rfl dX4_restore_26 ?_
    refine lv_iconst (v := 0) hx hb dX4_restore_29 (by decide) ?_
    obtain ⟨g6, h⟩ := chk_s h
    refine va_iald hx hb hK hP 1 0 rfl rfl (gi_in g6) dX4_restore_30 ?_
    obtain rfl := Option.some.inj h
    exact hret _ _ _ _ _ rfl hP hD hS dX4_restore_31
  · have h := itT h c1
    refine lv_bipush (v := (-2)) hx hb dX4_restore_7 (by decide) ?_
    obtain rfl := Option.some.inj h
    exact hret _ _ _ _ _ rfl hP hD hS dX4_restore_9
def f_X4_undo_L22 (N : Nat) (zpast_22 : Nat → Int32) (zpasts_22 : Int32) : Nat → Int32 → (Nat → Int32) → Option ((Nat → Int32))
  | 0, _, _ => none
  | n_22 + 1, x1_22, zs_22 =>
    if 37 ≤ x1_22 then (some zs_22) else (chk (gi ((37 * zpasts_22) + x1_22) 148) (chk (gi x1_22 37) (f_X4_undo_L22 N zpast_22 zpasts_22 n_22 (x1_22 + 1) (upd zs_22 (Int32.toNatClampNeg x1_22) (zpast_22 (Int32.toNatClampNeg ((37 * zpasts_22) + x1_22)))))))
def f_X4_undo (N : Nat) (zs : Nat → Int32) (zpast : Nat → Int32) (zpasts : Int32) : Option (Int32 × (Nat → Int32) × Int32) :=
    if zpasts = 0 then (some ((-2), zs, zpasts)) else (Option.bind (f_X4_undo_L22 N zpast (zpasts - 1) N 0 zs) (fun q6 => some (zpasts - 1, q6, zpasts - 1)))
set_option maxHeartbeats 4000000 in
set_option maxRecDepth 100000 in
theorem c_X4_undo (l : Launch) (D : va_G) (cI cC cH : ClassId) (a0 : Nat) (a_s : Nat) (a_past : Nat) (a_kept : Nat) (a_text : Nat) (a_measure : Nat) (a_chosen : Nat) (a_ways : Nat) (a_owners : Nat) (a_ranks : Nat) (a_sets : Nat) (a_toldAt : Nat) (a_line : Nat) (N : Nat) (zs : Nat → Int32) (zpast : Nat → Int32) (zisKept : Int32) (zpasts : Int32) (ztyped : Int32) (zmost1 : Int32) (zmost3 : Int32) (zmost5 : Int32) (zspot : Int32) (zreason : Int32) (zplaces : Int32) (y : Int32 × (Nat → Int32) × Int32) (h : f_X4_undo N zs zpast zpasts = some y) : CTi l yX4_undo cX4_undo 2 (some .int) 0 0 D (tyL cI cC cH) [.ref a0] [(a0, .inr (3, [.ref a_s, .ref a_past, .ref a_kept, .int zisKept, .int zpasts, .ref a_text, .int ztyped, .ref a_measure, .int zmost1, .int zmost3, .int zmost5, .ref a_chosen, .ref a_ways, .int zspot, .int zreason, .int zplaces, .ref a_owners, .ref a_ranks, .ref a_sets, .ref a_toldAt, .ref a_line])), (a_s, .inl (cI, 37, .inl zs)), (a_past, .inl (cI, 148, .inl zpast))] [(a0, .inr (3, [.ref a_s, .ref a_past, .ref a_kept, .int zisKept, .int y.2.2, .ref a_text, .int ztyped, .ref a_measure, .int zmost1, .int zmost3, .int zmost5, .ref a_chosen, .ref a_ways, .int zspot, .int zreason, .int zplaces, .ref a_owners, .ref a_ranks, .ref a_sets, .ref a_toldAt, .ref a_line])), (a_s, .inl (cI, 37, .inl y.2.1)), (a_past, .inl (cI, 148, .inl zpast))] y.1 := by
  unfold f_X4_undo at h
  refine ctI (by decide) (Nat.le_of_ble_eq_true rfl) ?_
  intro p e s m args below meth c A Q ls F hret hP hD hS hl
  have hx := F.1
  have hb := F.2.1
  have hown : s.vm.findClass RX4 = some m.cls := F.2.2.2.1
  have hts := F.2.2.2.2.1
  have hN := F.2.2.2.2.2.1
  have hK := F.2.2.2.2.2.2.1
  have hl : lv_has ls 2 [(0, .ref a0)] := hl
  refine lv_aload_n hx hb dX4_undo_0 rfl (lv_at hl 0 rfl) ?_
  refine va_get (D := D) (ci := 3) (v := .int zpasts) (C := RX4) (T := TX4) (N := 21) hx hb hts inG4 hown hK hP 0 rfl rfl 4 (by decide) (hts _ wd2_156) (fun _ h9 => h9) rfl dX4_undo_1 ?_
  refine lv_if_ne (tgt := 10) hx hb dX4_undo_4 (by decide) (fun c1 => ?_) (fun c1 => ?_)
  · have h := itF h c1
    refine lv_aload_n hx hb dX4_undo_10 rfl (lv_at hl 0 rfl) ?_
    refine lv_dup hx hb dX4_undo_11 rfl ?_
    refine va_get (D := D) (ci := 3) (v := .int zpasts) (C := RX4) (T := TX4) (N := 21) hx hb hts inG4 hown hK hP 0 rfl rfl 4 (by decide) (hts _ wd2_156) (fun _ h9 => h9) rfl dX4_undo_12 ?_
    refine lv_iconst (v := 1) hx hb dX4_undo_15 (by decide) ?_
    refine lv_isub hx hb dX4_undo_16 ?_
    refine va_put (D := D) (ci := 3) (v := .int (zpasts - 1)) (ty := .int) (C := RX4) (T := TX4) (N := 21) hx hb hts inG4 tyX4 tyX4_ok nmX4 hown hK hP hD hS 0 rfl rfl 4 (by decide) (hts _ wd2_156) (fun _ h9 => h9) rfl (by decide +kernel) rfl rfl (Nat.le_of_ble_eq_true rfl) dX4_undo_17 (fun H locs hP hD hS => ?_)
    have hP : va_P D vwCl [(a0, .inr (3, [.ref a_s, .ref a_past, .ref a_kept, .int zisKept, .int (zpasts - 1), .ref a_text, .int ztyped, .ref a_measure, .int zmost1, .int zmost3, .int zmost5, .ref a_chosen, .ref a_ways, .int zspot, .int zreason, .int zplaces, .ref a_owners, .ref a_ranks, .ref a_sets, .ref a_toldAt, .ref a_line])), (a_s, .inl (cI, 37, .inl zs)), (a_past, .inl (cI, 148, .inl zpast))] H := hP
    have hD : va_D A [(a0, .inr (3, [.ref a_s, .ref a_past, .ref a_kept, .int zisKept, .int (zpasts - 1), .ref a_text, .int ztyped, .ref a_measure, .int zmost1, .int zmost3, .int zmost5, .ref a_chosen, .ref a_ways, .int zspot, .int zreason, .int zplaces, .ref a_owners, .ref a_ranks, .ref a_sets, .ref a_toldAt, .ref a_line])), (a_s, .inl (cI, 37, .inl zs)), (a_past, .inl (cI, 148, .inl zpast))] := hD
    refine lv_iconst (v := 0) hx hb dX4_undo_20 (by decide) ?_
    refine lv_istore_n (lv' := [(1, .int 0), (0, .ref a0)]) hx hb dX4_undo_21 rfl hl (by decide) rfl (fun ls hl => ?_)
    have L_22 : ∀ (zpast_22 : Nat → Int32) (zisKept_22 : Int32) (zpasts_22 : Int32) (ztyped_22 : Int32) (zmost1_22 : Int32) (zmost3_22 : Int32) (zmost5_22 : Int32) (zspot_22 : Int32) (zreason_22 : Int32) (zplaces_22 : Int32), ∀ (n_22 : Nat) (x1_22 : Int32) (zs_22 : Nat → Int32) (q5 : ((Nat → Int32))), f_X4_undo_L22 N zpast_22 zpasts_22 n_22 x1_22 zs_22 = some q5 → (∀ (ls : Array Slot) (H : Heap) (locs : List Loc), lv_has ls 2 [(0, .ref a0)] → va_P D vwCl [(a0, .inr (3, [.ref a_s, .ref a_past, .ref a_kept, .int zisKept_22, .int zpasts_22, .ref a_text, .int ztyped_22, .ref a_measure, .int zmost1_22, .int zmost3_22, .int zmost5_22, .ref a_chosen, .ref a_ways, .int zspot_22, .int zreason_22, .int zplaces_22, .ref a_owners, .ref a_ranks, .ref a_sets, .ref a_toldAt, .ref a_line])), (a_s, .inl (cI, 37, .inl q5)), (a_past, .inl (cI, 148, .inl zpast_22))] H → va_D A [(a0, .inr (3, [.ref a_s, .ref a_past, .ref a_kept, .int zisKept_22, .int zpasts_22, .ref a_text, .int ztyped_22, .ref a_measure, .int zmost1_22, .int zmost3_22, .int zmost5_22, .ref a_chosen, .ref a_ways, .int zspot_22, .int zreason_22, .int zplaces_22, .ref a_owners, .ref a_ranks, .ref a_sets, .ref a_toldAt, .ref a_line])), (a_s, .inl (cI, 37, .inl q5)), (a_past, .inl (cI, 148, .inl zpast_22))] → va_S A s.heap H locs → W p l e (rmm 0 0) s m args below meth c H locs 0 0 Q (F0 m 54 ls [])) → ∀ (ls : Array Slot) (H : Heap) (locs : List Loc), lv_has ls 2 [(0, .ref a0), (1, .int x1_22)] → va_P D vwCl [(a0, .inr (3, [.ref a_s, .ref a_past, .ref a_kept, .int zisKept_22, .int zpasts_22, .ref a_text, .int ztyped_22, .ref a_measure, .int zmost1_22, .int zmost3_22, .int zmost5_22, .ref a_chosen, .ref a_ways, .int zspot_22, .int zreason_22, .int zplaces_22, .ref a_owners, .ref a_ranks, .ref a_sets, .ref a_toldAt, .ref a_line])), (a_s, .inl (cI, 37, .inl zs_22)), (a_past, .inl (cI, 148, .inl zpast_22))] H → va_D A [(a0, .inr (3, [.ref a_s, .ref a_past, .ref a_kept, .int zisKept_22, .int zpasts_22, .ref a_text, .int ztyped_22, .ref a_measure, .int zmost1_22, .int zmost3_22, .int zmost5_22, .ref a_chosen, .ref a_ways, .int zspot_22, .int zreason_22, .int zplaces_22, .ref a_owners, .ref a_ranks, .ref a_sets, .ref a_toldAt, .ref a_line])), (a_s, .inl (cI, 37, .inl zs_22)), (a_past, .inl (cI, 148, .inl zpast_22))] → va_S A s.heap H locs → W p l e (rmm 0 0) s m args below meth c H locs 0 0 Q (F0 m 22 ls []) := by
      intro zpast_22 zisKept_22 zpasts_22 ztyped_22 zmost1_22 zmost3_22 zmost5_22 zspot_22 zreason_22 zplaces_22 n_22
      induction n_22 with
      | zero => intro x1_22 zs_22 q5 h; exact no_s h
      | succ n_22 ih_22 =>
        intro x1_22 zs_22 q5 h J_22 ls H locs hl hP hD hS
        rw [f_X4_undo_L22] at h
        refine lv_iload_n hx hb dX4_undo_22 rfl (lv_at hl 1 rfl) ?_
        refine lv_bipush (v := 37) hx hb dX4_undo_23 (by decide) ?_
        refine lv_icmp_ge (tgt := 54) hx hb dX4_undo_25 (by decide) (fun c2 => ?_) (fun c2 => ?_)
        · have h := itT h c2
          obtain rfl := Option.some.inj h
          exact J_22 _ _ _ (lv_sub hl [0] rfl) hP hD hS
        · have h := itF h c2
          refine lv_aload_n hx hb dX4_undo_28 rfl (lv_at hl 0 rfl) ?_
          refine va_get (D := D) (ci := 3) (v := .ref a_s) (C := RX4) (T := TX4) (N := 21) hx hb hts inG4 hown hK hP 0 rfl rfl 0 (by decide) (hts _ wd2_152) (fun _ h9 => h9) rfl dX4_undo_29 ?_
          refine lv_iload_n hx hb dX4_undo_32 rfl (lv_at hl 1 rfl) ?_
          refine lv_aload_n hx hb dX4_undo_33 rfl (lv_at hl 0 rfl) ?_
          refine va_get (D := D) (ci := 3) (v := .ref a_past) (C := RX4) (T := TX4) (N := 21) hx hb hts inG4 hown hK hP 0 rfl rfl 1 (by decide) (hts _ wd2_153) (fun _ h9 => h9) rfl dX4_undo_34 ?_
          refine lv_bipush (v := 37) hx hb dX4_undo_37 (by decide) ?_
          refine lv_aload_n hx hb dX4_undo_39 rfl (lv_at hl 0 rfl) ?_
          refine va_get (D := D) (ci := 3) (v := .int zpasts_22) (C := RX4) (T := TX4) (N := 21) hx hb hts inG4 hown hK hP 0 rfl rfl 4 (by decide) (hts _ wd2_156) (fun _ h9 => h9) rfl dX4_undo_40 ?_
          refine lv_imul hx hb dX4_undo_43 ?_
          refine lv_iload_n hx hb dX4_undo_44 rfl (lv_at hl 1 rfl) ?_
          refine lv_iadd hx hb dX4_undo_45 ?_
          obtain ⟨g3, h⟩ := chk_s h
          refine va_iald hx hb hK hP 2 0 rfl rfl (gi_in g3) dX4_undo_46 ?_
          obtain ⟨g4, h⟩ := chk_s h
          refine va_iast hx hb hK hP hD hS 1 0 rfl rfl (gi_in g4) dX4_undo_47 (fun H locs hP hD hS => ?_)
          have hP : va_P D vwCl [(a0, .inr (3, [.ref a_s, .ref a_past, .ref a_kept, .int zisKept_22, .int zpasts_22, .ref a_text, .int ztyped_22, .ref a_measure, .int zmost1_22, .int zmost3_22, .int zmost5_22, .ref a_chosen, .ref a_ways, .int zspot_22, .int zreason_22, .int zplaces_22, .ref a_owners, .ref a_ranks, .ref a_sets, .ref a_toldAt, .ref a_line])), (a_s, .inl (cI, 37, .inl (upd zs_22 (Int32.toNatClampNeg x1_22) (zpast_22 (Int32.toNatClampNeg ((37 * zpasts_22) + x1_22)))))), (a_past, .inl (cI, 148, .inl zpast_22))] H := hP
          have hD : va_D A [(a0, .inr (3, [.ref a_s, .ref a_past, .ref a_kept, .int zisKept_22, .int zpasts_22, .ref a_text, .int ztyped_22, .ref a_measure, .int zmost1_22, .int zmost3_22, .int zmost5_22, .ref a_chosen, .ref a_ways, .int zspot_22, .int zreason_22, .int zplaces_22, .ref a_owners, .ref a_ranks, .ref a_sets, .ref a_toldAt, .ref a_line])), (a_s, .inl (cI, 37, .inl (upd zs_22 (Int32.toNatClampNeg x1_22) (zpast_22 (Int32.toNatClampNeg ((37 * zpasts_22) + x1_22)))))), (a_past, .inl (cI, 148, .inl zpast_22))] := hD
          refine lv_iinc (v := x1_22 + 1) (lv' := [(1, .int (x1_22 + 1)), (0, .ref a0)]) hx hb dX4_undo_48 hl (k := 1) rfl rfl (by decide) rfl (fun ls hl => ?_)
          refine lv_goto (tgt := 22) hx hb dX4_undo_51 (by decide) ?_
          exact ih_22 (x1_22 + 1) (upd zs_22 (Int32.toNatClampNeg x1_22) (zpast_22 (Int32.toNatClampNeg ((37 * zpasts_22) + x1_22)))) _ h J_22 _ _ _ (lv_sub hl [1, 0] rfl) hP hD hS
    obtain ⟨q6, hb7, h⟩ := bd h
    refine L_22 zpast zisKept (zpasts - 1) ztyped zmost1 zmost3 zmost5 zspot zreason zplaces N 0 zs q6 hb7 ?_ _ _ _ (lv_sub hl [1, 0] rfl) hP hD hS
    intro ls H locs hl hP hD hS
    refine lv_aload_n hx hb dX4_undo_54 rfl (lv_at hl 0 rfl) ?_
    refine va_get (D := D) (ci := 3) (v := .int (zpasts - 1)) (C := RX4) (T := TX4) (N := 21) hx hb hts inG4 hown hK hP 0 rfl rfl 4 (by decide) (hts _ wd2_156) (fun _ h9 => h9) rfl dX4_undo_55 ?_
    obtain rfl := Option.some.inj h
    exact hret _ _ _ _ _ rfl hP hD hS dX4_undo_58
  · have h := itT h c1
    refine lv_bipush (v := (-2)) hx hb dX4_undo_7 (by decide) ?_
    obtain rfl := Option.some.inj h
    exact hret _ _ _ _ _ rfl hP hD hS dX4_undo_9
def f_X4_type (N : Nat) (x1 : Int32) (ztext : Nat → Int32) (ztyped : Int32) : Option (Int32 × (Nat → Int32) × Int32) :=
    Option.bind (f_X4_in N x1 32 126) (fun q1 => if q1 = 0 then (some ((-1), ztext, ztyped)) else (if ztyped = 80 then (some ((-3), ztext, ztyped)) else (chk (gi ztyped 80) (some (ztyped + 1, upd ztext (Int32.toNatClampNeg ztyped) x1, ztyped + 1)))))
set_option maxHeartbeats 4000000 in
set_option maxRecDepth 100000 in
theorem c_X4_type (l : Launch) (D : va_G) (cI cC cH : ClassId) (a0 : Nat) (a_s : Nat) (a_past : Nat) (a_kept : Nat) (a_text : Nat) (a_measure : Nat) (a_chosen : Nat) (a_ways : Nat) (a_owners : Nat) (a_ranks : Nat) (a_sets : Nat) (a_toldAt : Nat) (a_line : Nat) (N : Nat) (x1 : Int32) (zisKept : Int32) (zpasts : Int32) (ztext : Nat → Int32) (ztyped : Int32) (zmost1 : Int32) (zmost3 : Int32) (zmost5 : Int32) (zspot : Int32) (zreason : Int32) (zplaces : Int32) (y : Int32 × (Nat → Int32) × Int32) (h : f_X4_type N x1 ztext ztyped = some y) : CTi l yX4_type cX4_type 2 (some .int) 1 22 D (tyL cI cC cH) [.ref a0, .int x1] [(a0, .inr (3, [.ref a_s, .ref a_past, .ref a_kept, .int zisKept, .int zpasts, .ref a_text, .int ztyped, .ref a_measure, .int zmost1, .int zmost3, .int zmost5, .ref a_chosen, .ref a_ways, .int zspot, .int zreason, .int zplaces, .ref a_owners, .ref a_ranks, .ref a_sets, .ref a_toldAt, .ref a_line])), (a_text, .inl (cI, 80, .inl ztext))] [(a0, .inr (3, [.ref a_s, .ref a_past, .ref a_kept, .int zisKept, .int zpasts, .ref a_text, .int y.2.2, .ref a_measure, .int zmost1, .int zmost3, .int zmost5, .ref a_chosen, .ref a_ways, .int zspot, .int zreason, .int zplaces, .ref a_owners, .ref a_ranks, .ref a_sets, .ref a_toldAt, .ref a_line])), (a_text, .inl (cI, 80, .inl y.2.1))] y.1 := by
  unfold f_X4_type at h
  refine ctI (by decide) (Nat.le_of_ble_eq_true rfl) ?_
  intro p e s m args below meth c A Q ls F hret hP hD hS hl
  have hx := F.1
  have hb := F.2.1
  have hown : s.vm.findClass RX4 = some m.cls := F.2.2.2.1
  have hts := F.2.2.2.2.1
  have hN := F.2.2.2.2.2.1
  have hK := F.2.2.2.2.2.2.1
  have hl : lv_has ls 2 [(0, .ref a0), (1, .int x1)] := hl
  refine lv_iload_n hx hb dX4_type_0 rfl (lv_at hl 1 rfl) ?_
  refine lv_bipush (v := 32) hx hb dX4_type_1 (by decide) ?_
  refine lv_bipush (v := 126) hx hb dX4_type_3 (by decide) ?_
  obtain ⟨q1, hq2, h⟩ := bd h
  refine ks0 (As := [.int x1, .int 32, .int 126]) F (c_X4_in l D cI cC cH  N x1 32 126 q1 hq2) yfX4_in ⟨wd2_220, wd2_221⟩ hP hD hS ⟨Nat.le_of_ble_eq_true rfl, Nat.le_of_ble_eq_true rfl, Nat.zero_le _, Nat.zero_le _⟩ rfl hl rfl (Nat.le_of_ble_eq_true rfl) dX4_type_5 (fun H locs hP hD hS => ?_)
  refine lv_if_ne (tgt := 13) hx hb dX4_type_8 (by decide) (fun c3 => ?_) (fun c3 => ?_)
  · have h := itF h c3
    refine lv_aload_n hx hb dX4_type_13 rfl (lv_at hl 0 rfl) ?_
    refine va_get (D := D) (ci := 3) (v := .int ztyped) (C := RX4) (T := TX4) (N := 21) hx hb hts inG4 hown hK hP 0 rfl rfl 6 (by decide) (hts _ wd2_158) (fun _ h9 => h9) rfl dX4_type_14 ?_
    refine lv_bipush (v := 80) hx hb dX4_type_17 (by decide) ?_
    refine lv_icmp_ne (tgt := 25) hx hb dX4_type_19 (by decide) (fun c4 => ?_) (fun c4 => ?_)
    · have h := itF h c4
      refine lv_aload_n hx hb dX4_type_25 rfl (lv_at hl 0 rfl) ?_
      refine va_get (D := D) (ci := 3) (v := .ref a_text) (C := RX4) (T := TX4) (N := 21) hx hb hts inG4 hown hK hP 0 rfl rfl 5 (by decide) (hts _ wd2_157) (fun _ h9 => h9) rfl dX4_type_26 ?_
      refine lv_aload_n hx hb dX4_type_29 rfl (lv_at hl 0 rfl) ?_
      refine va_get (D := D) (ci := 3) (v := .int ztyped) (C := RX4) (T := TX4) (N := 21) hx hb hts inG4 hown hK hP 0 rfl rfl 6 (by decide) (hts _ wd2_158) (fun _ h9 => h9) rfl dX4_type_30 ?_
      refine lv_iload_n hx hb dX4_type_33 rfl (lv_at hl 1 rfl) ?_
      obtain ⟨g5, h⟩ := chk_s h
      refine va_iast hx hb hK hP hD hS 1 0 rfl rfl (gi_in g5) dX4_type_34 (fun H locs hP hD hS => ?_)
      have hP : va_P D vwCl [(a0, .inr (3, [.ref a_s, .ref a_past, .ref a_kept, .int zisKept, .int zpasts, .ref a_text, .int ztyped, .ref a_measure, .int zmost1, .int zmost3, .int zmost5, .ref a_chosen, .ref a_ways, .int zspot, .int zreason, .int zplaces, .ref a_owners, .ref a_ranks, .ref a_sets, .ref a_toldAt, .ref a_line])), (a_text, .inl (cI, 80, .inl (upd ztext (Int32.toNatClampNeg ztyped) x1)))] H := hP
      have hD : va_D A [(a0, .inr (3, [.ref a_s, .ref a_past, .ref a_kept, .int zisKept, .int zpasts, .ref a_text, .int ztyped, .ref a_measure, .int zmost1, .int zmost3, .int zmost5, .ref a_chosen, .ref a_ways, .int zspot, .int zreason, .int zplaces, .ref a_owners, .ref a_ranks, .ref a_sets, .ref a_toldAt, .ref a_line])), (a_text, .inl (cI, 80, .inl (upd ztext (Int32.toNatClampNeg ztyped) x1)))] := hD
      refine lv_aload_n hx hb dX4_type_35 rfl (lv_at hl 0 rfl) ?_
      refine lv_dup hx hb dX4_type_36 rfl ?_
      refine va_get (D := D) (ci := 3) (v := .int ztyped) (C := RX4) (T := TX4) (N := 21) hx hb hts inG4 hown hK hP 0 rfl rfl 6 (by decide) (hts _ wd2_158) (fun _ h9 => h9) rfl dX4_type_37 ?_
      refine lv_iconst (v := 1) hx hb dX4_type_40 (by decide) ?_
      refine lv_iadd hx hb dX4_type_41 ?_
      refine va_put (D := D) (ci := 3) (v := .int (ztyped + 1)) (ty := .int) (C := RX4) (T := TX4) (N := 21) hx hb hts inG4 tyX4 tyX4_ok nmX4 hown hK hP hD hS 0 rfl rfl 6 (by decide) (hts _ wd2_158) (fun _ h9 => h9) rfl (by decide +kernel) rfl rfl (Nat.le_of_ble_eq_true rfl) dX4_type_42 (fun H locs hP hD hS => ?_)
      have hP : va_P D vwCl [(a0, .inr (3, [.ref a_s, .ref a_past, .ref a_kept, .int zisKept, .int zpasts, .ref a_text, .int (ztyped + 1), .ref a_measure, .int zmost1, .int zmost3, .int zmost5, .ref a_chosen, .ref a_ways, .int zspot, .int zreason, .int zplaces, .ref a_owners, .ref a_ranks, .ref a_sets, .ref a_toldAt, .ref a_line])), (a_text, .inl (cI, 80, .inl (upd ztext (Int32.toNatClampNeg ztyped) x1)))] H := hP
      have hD : va_D A [(a0, .inr (3, [.ref a_s, .ref a_past, .ref a_kept, .int zisKept, .int zpasts, .ref a_text, .int (ztyped + 1), .ref a_measure, .int zmost1, .int zmost3, .int zmost5, .ref a_chosen, .ref a_ways, .int zspot, .int zreason, .int zplaces, .ref a_owners, .ref a_ranks, .ref a_sets, .ref a_toldAt, .ref a_line])), (a_text, .inl (cI, 80, .inl (upd ztext (Int32.toNatClampNeg ztyped) x1)))] := hD
      refine lv_aload_n hx hb dX4_type_45 rfl (lv_at hl 0 rfl) ?_
      refine va_get (D := D) (ci := 3) (v := .int (ztyped + 1)) (C := RX4) (T := TX4) (N := 21) hx hb hts inG4 hown hK hP 0 rfl rfl 6 (by decide) (hts _ wd2_158) (fun _ h9 => h9) rfl dX4_type_46 ?_
      obtain rfl := Option.some.inj h
      exact hret _ _ _ _ _ rfl hP hD hS dX4_type_49
    · have h := itT h c4
      refine lv_bipush (v := (-3)) hx hb dX4_type_22 (by decide) ?_
      obtain rfl := Option.some.inj h
      exact hret _ _ _ _ _ rfl hP hD hS dX4_type_24
  · have h := itT h c3
    refine lv_iconst (v := (-1)) hx hb dX4_type_11 (by decide) ?_
    obtain rfl := Option.some.inj h
    exact hret _ _ _ _ _ rfl hP hD hS dX4_type_12
def f_X4_clearText (N : Nat) (ztyped : Int32) : Option (Int32 × Int32) :=
    some (ztyped, 0)
set_option maxHeartbeats 4000000 in
set_option maxRecDepth 100000 in
theorem c_X4_clearText (l : Launch) (D : va_G) (cI cC cH : ClassId) (a0 : Nat) (a_s : Nat) (a_past : Nat) (a_kept : Nat) (a_text : Nat) (a_measure : Nat) (a_chosen : Nat) (a_ways : Nat) (a_owners : Nat) (a_ranks : Nat) (a_sets : Nat) (a_toldAt : Nat) (a_line : Nat) (N : Nat) (zisKept : Int32) (zpasts : Int32) (ztyped : Int32) (zmost1 : Int32) (zmost3 : Int32) (zmost5 : Int32) (zspot : Int32) (zreason : Int32) (zplaces : Int32) (y : Int32 × Int32) (h : f_X4_clearText N ztyped = some y) : CTi l yX4_clearText cX4_clearText 2 (some .int) 0 0 D (tyL cI cC cH) [.ref a0] [(a0, .inr (3, [.ref a_s, .ref a_past, .ref a_kept, .int zisKept, .int zpasts, .ref a_text, .int ztyped, .ref a_measure, .int zmost1, .int zmost3, .int zmost5, .ref a_chosen, .ref a_ways, .int zspot, .int zreason, .int zplaces, .ref a_owners, .ref a_ranks, .ref a_sets, .ref a_toldAt, .ref a_line]))] [(a0, .inr (3, [.ref a_s, .ref a_past, .ref a_kept, .int zisKept, .int zpasts, .ref a_text, .int y.2, .ref a_measure, .int zmost1, .int zmost3, .int zmost5, .ref a_chosen, .ref a_ways, .int zspot, .int zreason, .int zplaces, .ref a_owners, .ref a_ranks, .ref a_sets, .ref a_toldAt, .ref a_line]))] y.1 := by
  unfold f_X4_clearText at h
  refine ctI (by decide) (Nat.le_of_ble_eq_true rfl) ?_
  intro p e s m args below meth c A Q ls F hret hP hD hS hl
  have hx := F.1
  have hb := F.2.1
  have hown : s.vm.findClass RX4 = some m.cls := F.2.2.2.1
  have hts := F.2.2.2.2.1
  have hN := F.2.2.2.2.2.1
  have hK := F.2.2.2.2.2.2.1
  have hl : lv_has ls 2 [(0, .ref a0)] := hl
  refine lv_aload_n hx hb dX4_clearText_0 rfl (lv_at hl 0 rfl) ?_
  refine va_get (D := D) (ci := 3) (v := .int ztyped) (C := RX4) (T := TX4) (N := 21) hx hb hts inG4 hown hK hP 0 rfl rfl 6 (by decide) (hts _ wd2_158) (fun _ h9 => h9) rfl dX4_clearText_1 ?_
  refine lv_istore_n (lv' := [(1, .int ztyped), (0, .ref a0)]) hx hb dX4_clearText_4 rfl hl (by decide) rfl (fun ls hl => ?_)
  refine lv_aload_n hx hb dX4_clearText_5 rfl (lv_at hl 1 rfl) ?_
  refine lv_iconst (v := 0) hx hb dX4_clearText_6 (by decide) ?_
  refine va_put (D := D) (ci := 3) (v := .int 0) (ty := .int) (C := RX4) (T := TX4) (N := 21) hx hb hts inG4 tyX4 tyX4_ok nmX4 hown hK hP hD hS 0 rfl rfl 6 (by decide) (hts _ wd2_158) (fun _ h9 => h9) rfl (by decide +kernel) rfl rfl (Nat.le_of_ble_eq_true rfl) dX4_clearText_7 (fun H locs hP hD hS => ?_)
  have hP : va_P D vwCl [(a0, .inr (3, [.ref a_s, .ref a_past, .ref a_kept, .int zisKept, .int zpasts, .ref a_text, .int 0, .ref a_measure, .int zmost1, .int zmost3, .int zmost5, .ref a_chosen, .ref a_ways, .int zspot, .int zreason, .int zplaces, .ref a_owners, .ref a_ranks, .ref a_sets, .ref a_toldAt, .ref a_line]))] H := hP
  have hD : va_D A [(a0, .inr (3, [.ref a_s, .ref a_past, .ref a_kept, .int zisKept, .int zpasts, .ref a_text, .int 0, .ref a_measure, .int zmost1, .int zmost3, .int zmost5, .ref a_chosen, .ref a_ways, .int zspot, .int zreason, .int zplaces, .ref a_owners, .ref a_ranks, .ref a_sets, .ref a_toldAt, .ref a_line]))] := hD
  refine lv_iload_n hx hb dX4_clearText_10 rfl (lv_at hl 0 rfl) ?_
  obtain rfl := Option.some.inj h
  exact hret _ _ _ _ _ rfl hP hD hS dX4_clearText_11
def f_X4_isAt (N : Nat) (x1 : Int32) (x2 : Int32) (ztext : Nat → Int32) (ztyped : Int32) (zspot : Int32) : Option (Int32) :=
    if ztyped ≤ zspot then (some 0) else (chk (gi zspot 80) (Option.bind (f_X4_in N (ztext (Int32.toNatClampNeg zspot)) x1 x2) (fun q3 => if q3 = 0 then (some 0) else (some 1))))
set_option maxHeartbeats 4000000 in
set_option maxRecDepth 100000 in
theorem c_X4_isAt (l : Launch) (D : va_G) (cI cC cH : ClassId) (a0 : Nat) (a_s : Nat) (a_past : Nat) (a_kept : Nat) (a_text : Nat) (a_measure : Nat) (a_chosen : Nat) (a_ways : Nat) (a_owners : Nat) (a_ranks : Nat) (a_sets : Nat) (a_toldAt : Nat) (a_line : Nat) (N : Nat) (x1 : Int32) (x2 : Int32) (zisKept : Int32) (zpasts : Int32) (ztext : Nat → Int32) (ztyped : Int32) (zmost1 : Int32) (zmost3 : Int32) (zmost5 : Int32) (zspot : Int32) (zreason : Int32) (zplaces : Int32) (y : Int32) (h : f_X4_isAt N x1 x2 ztext ztyped zspot = some y) : CTi l yX4_isAt cX4_isAt 3 (some .boolean) 1 22 D (tyL cI cC cH) [.ref a0, .int x1, .int x2] [(a0, .inr (3, [.ref a_s, .ref a_past, .ref a_kept, .int zisKept, .int zpasts, .ref a_text, .int ztyped, .ref a_measure, .int zmost1, .int zmost3, .int zmost5, .ref a_chosen, .ref a_ways, .int zspot, .int zreason, .int zplaces, .ref a_owners, .ref a_ranks, .ref a_sets, .ref a_toldAt, .ref a_line])), (a_text, .inl (cI, 80, .inl ztext))] [(a0, .inr (3, [.ref a_s, .ref a_past, .ref a_kept, .int zisKept, .int zpasts, .ref a_text, .int ztyped, .ref a_measure, .int zmost1, .int zmost3, .int zmost5, .ref a_chosen, .ref a_ways, .int zspot, .int zreason, .int zplaces, .ref a_owners, .ref a_ranks, .ref a_sets, .ref a_toldAt, .ref a_line])), (a_text, .inl (cI, 80, .inl ztext))] y := by
  unfold f_X4_isAt at h
  refine ctZ (by decide) (Nat.le_of_ble_eq_true rfl) ?_
  intro p e s m args below meth c A Q ls F hret hP hD hS hl
  have hx := F.1
  have hb := F.2.1
  have hown : s.vm.findClass RX4 = some m.cls := F.2.2.2.1
  have hts := F.2.2.2.2.1
  have hN := F.2.2.2.2.2.1
  have hK := F.2.2.2.2.2.2.1
  have hl : lv_has ls 3 [(0, .ref a0), (1, .int x1), (2, .int x2)] := hl
  refine lv_aload_n hx hb dX4_isAt_0 rfl (lv_at hl 0 rfl) ?_
  refine va_get (D := D) (ci := 3) (v := .int zspot) (C := RX4) (T := TX4) (N := 21) hx hb hts inG4 hown hK hP 0 rfl rfl 13 (by decide) (hts _ wd2_165) (fun _ h9 => h9) rfl dX4_isAt_1 ?_
  refine lv_aload_n hx hb dX4_isAt_4 rfl (lv_at hl 0 rfl) ?_
  refine va_get (D := D) (ci := 3) (v := .int ztyped) (C := RX4) (T := TX4) (N := 21) hx hb hts inG4 hown hK hP 0 rfl rfl 6 (by decide) (hts _ wd2_158) (fun _ h9 => h9) rfl dX4_isAt_5 ?_
  refine lv_icmp_ge (tgt := 32) hx hb dX4_isAt_8 (by decide) (fun c1 => ?_) (fun c1 => ?_)
  · have h := itT h c1
    refine lv_iconst (v := 0) hx hb dX4_isAt_32 (by decide) ?_
    obtain rfl := Option.some.inj h
    exact hret _ _ _ _ _ rfl rfl hP hD hS dX4_isAt_33
  · have h := itF h c1
    refine lv_aload_n hx hb dX4_isAt_11 rfl (lv_at hl 0 rfl) ?_
    refine va_get (D := D) (ci := 3) (v := .ref a_text) (C := RX4) (T := TX4) (N := 21) hx hb hts inG4 hown hK hP 0 rfl rfl 5 (by decide) (hts _ wd2_157) (fun _ h9 => h9) rfl dX4_isAt_12 ?_
    refine lv_aload_n hx hb dX4_isAt_15 rfl (lv_at hl 0 rfl) ?_
    refine va_get (D := D) (ci := 3) (v := .int zspot) (C := RX4) (T := TX4) (N := 21) hx hb hts inG4 hown hK hP 0 rfl rfl 13 (by decide) (hts _ wd2_165) (fun _ h9 => h9) rfl dX4_isAt_16 ?_
    obtain ⟨g2, h⟩ := chk_s h
    refine va_iald hx hb hK hP 1 0 rfl rfl (gi_in g2) dX4_isAt_19 ?_
    refine lv_iload_n hx hb dX4_isAt_20 rfl (lv_at hl 1 rfl) ?_
    refine lv_iload_n hx hb dX4_isAt_21 rfl (lv_at hl 2 rfl) ?_
    obtain ⟨q3, hq4, h⟩ := bd h
    refine ks0 (As := [.int (ztext (Int32.toNatClampNeg zspot)), .int x1, .int x2]) F (c_X4_in l D cI cC cH  N (ztext (Int32.toNatClampNeg zspot)) x1 x2 q3 hq4) yfX4_in ⟨wd2_220, wd2_221⟩ hP hD hS ⟨Nat.le_of_ble_eq_true rfl, Nat.le_of_ble_eq_true rfl, Nat.zero_le _, Nat.zero_le _⟩ rfl hl rfl (Nat.le_of_ble_eq_true rfl) dX4_isAt_22 (fun H locs hP hD hS => ?_)
    refine lv_if_eq (tgt := 32) hx hb dX4_isAt_25 (by decide) (fun c5 => ?_) (fun c5 => ?_)
    · have h := itT h c5
      refine lv_iconst (v := 0) hx hb dX4_isAt_32 (by decide) ?_
      obtain rfl := Option.some.inj h
      exact hret _ _ _ _ _ rfl rfl hP hD hS dX4_isAt_33
    · have h := itF h c5
      refine lv_iconst (v := 1) hx hb dX4_isAt_28 (by decide) ?_
      refine lv_goto (tgt := 33) hx hb dX4_isAt_29 (by decide) ?_
      obtain rfl := Option.some.inj h
      exact hret _ _ _ _ _ rfl rfl hP hD hS dX4_isAt_33
def f_X4_fails (N : Nat) (x1 : Int32) (zreason : Int32) : Option (Int32 × Int32) :=
    some (0, x1)
set_option maxHeartbeats 4000000 in
set_option maxRecDepth 100000 in
theorem c_X4_fails (l : Launch) (D : va_G) (cI cC cH : ClassId) (a0 : Nat) (a_s : Nat) (a_past : Nat) (a_kept : Nat) (a_text : Nat) (a_measure : Nat) (a_chosen : Nat) (a_ways : Nat) (a_owners : Nat) (a_ranks : Nat) (a_sets : Nat) (a_toldAt : Nat) (a_line : Nat) (N : Nat) (x1 : Int32) (zisKept : Int32) (zpasts : Int32) (ztyped : Int32) (zmost1 : Int32) (zmost3 : Int32) (zmost5 : Int32) (zspot : Int32) (zreason : Int32) (zplaces : Int32) (y : Int32 × Int32) (h : f_X4_fails N x1 zreason = some y) : CTi l yX4_fails cX4_fails 2 (some .boolean) 0 0 D (tyL cI cC cH) [.ref a0, .int x1] [(a0, .inr (3, [.ref a_s, .ref a_past, .ref a_kept, .int zisKept, .int zpasts, .ref a_text, .int ztyped, .ref a_measure, .int zmost1, .int zmost3, .int zmost5, .ref a_chosen, .ref a_ways, .int zspot, .int zreason, .int zplaces, .ref a_owners, .ref a_ranks, .ref a_sets, .ref a_toldAt, .ref a_line]))] [(a0, .inr (3, [.ref a_s, .ref a_past, .ref a_kept, .int zisKept, .int zpasts, .ref a_text, .int ztyped, .ref a_measure, .int zmost1, .int zmost3, .int zmost5, .ref a_chosen, .ref a_ways, .int zspot, .int y.2, .int zplaces, .ref a_owners, .ref a_ranks, .ref a_sets, .ref a_toldAt, .ref a_line]))] y.1 := by
  unfold f_X4_fails at h
  refine ctZ (by decide) (Nat.le_of_ble_eq_true rfl) ?_
  intro p e s m args below meth c A Q ls F hret hP hD hS hl
  have hx := F.1
  have hb := F.2.1
  have hown : s.vm.findClass RX4 = some m.cls := F.2.2.2.1
  have hts := F.2.2.2.2.1
  have hN := F.2.2.2.2.2.1
  have hK := F.2.2.2.2.2.2.1
  have hl : lv_has ls 2 [(0, .ref a0), (1, .int x1)] := hl
  refine lv_aload_n hx hb dX4_fails_0 rfl (lv_at hl 0 rfl) ?_
  refine lv_iload_n hx hb dX4_fails_1 rfl (lv_at hl 1 rfl) ?_
  refine va_put (D := D) (ci := 3) (v := .int x1) (ty := .int) (C := RX4) (T := TX4) (N := 21) hx hb hts inG4 tyX4 tyX4_ok nmX4 hown hK hP hD hS 0 rfl rfl 14 (by decide) (hts _ wd2_166) (fun _ h9 => h9) rfl (by decide +kernel) rfl rfl (Nat.le_of_ble_eq_true rfl) dX4_fails_2 (fun H locs hP hD hS => ?_)
  have hP : va_P D vwCl [(a0, .inr (3, [.ref a_s, .ref a_past, .ref a_kept, .int zisKept, .int zpasts, .ref a_text, .int ztyped, .ref a_measure, .int zmost1, .int zmost3, .int zmost5, .ref a_chosen, .ref a_ways, .int zspot, .int x1, .int zplaces, .ref a_owners, .ref a_ranks, .ref a_sets, .ref a_toldAt, .ref a_line]))] H := hP
  have hD : va_D A [(a0, .inr (3, [.ref a_s, .ref a_past, .ref a_kept, .int zisKept, .int zpasts, .ref a_text, .int ztyped, .ref a_measure, .int zmost1, .int zmost3, .int zmost5, .ref a_chosen, .ref a_ways, .int zspot, .int x1, .int zplaces, .ref a_owners, .ref a_ranks, .ref a_sets, .ref a_toldAt, .ref a_line]))] := hD
  refine lv_iconst (v := 0) hx hb dX4_fails_5 (by decide) ?_
  obtain rfl := Option.some.inj h
  exact hret _ _ _ _ _ rfl rfl hP hD hS dX4_fails_6
def f_X4_readsWay (N : Nat) (ztext : Nat → Int32) (ztyped : Int32) (zspot : Int32) (zreason : Int32) (zplaces : Int32) (zsets : Nat → Int32) (ztoldAt : Nat → Int32) (zline : Nat → Int32) : Option (Int32 × Int32 × Int32 × (Nat → Int32) × (Nat → Int32) × (Nat → Int32)) :=
    Option.bind (f_X4_isAt N 48 57 ztext ztyped zspot) (fun q1 => if q1 = 0 then (Option.bind (f_X4_fails N 1 zreason) (fun q35 => chk (isZ q35.1) (some (q35.1, zspot, q35.2, zsets, ztoldAt, zline)))) else (chk (gi zspot 80) (Option.bind (α := Int32 × Int32) (if ((ztext (Int32.toNatClampNeg zspot)) - 48) ≤ 0 then (some ((ztext (Int32.toNatClampNeg zspot)) - 48, zspot + 1)) else (Option.bind (f_X4_isAt N 48 57 ztext ztyped (zspot + 1)) (fun q9 => if q9 = 0 then (some ((ztext (Int32.toNatClampNeg zspot)) - 48, zspot + 1)) else (chk (gi (zspot + 1) 80) (some (((10 * ((ztext (Int32.toNatClampNeg zspot)) - 48)) + (ztext (Int32.toNatClampNeg (zspot + 1)))) - 48, (zspot + 1) + 1)))))) (fun q6 => chk (gi q6.1 100) (if (zline (Int32.toNatClampNeg q6.1)) = (zplaces + 1) then (Option.bind (f_X4_fails N 3 zreason) (fun q31 => chk (isZ q31.1) (some (q31.1, zspot, q31.2, zsets, ztoldAt, zline)))) else (chk (gi q6.1 100) (chk (gi q6.1 100) (Option.bind (α := Int32) (if 0 ≤ (ztoldAt (Int32.toNatClampNeg q6.1)) then (chk (gi q6.1 100) (some (ztoldAt (Int32.toNatClampNeg q6.1)))) else (some (zspot))) (fun q18 => chk (gi q6.1 100) (chk (gi zplaces 12) (Option.bind (α := Int32) (if 12 ≤ q6.1 then (some (0)) else (some ((1 : Int32) <<< (q6.1 &&& 31)))) (fun q25 => chk (gi zplaces 12) (some (1, q6.2, zreason, upd zsets (Int32.toNatClampNeg zplaces) ((zsets (Int32.toNatClampNeg zplaces)) ||| q25), upd ztoldAt (Int32.toNatClampNeg q6.1) q18, upd zline (Int32.toNatClampNeg q6.1) (zplaces + 1)))))))))))))))
set_option maxHeartbeats 4000000 in
set_option maxRecDepth 100000 in
theorem c_X4_readsWay (l : Launch) (D : va_G) (cI cC cH : ClassId) (a0 : Nat) (a_s : Nat) (a_past : Nat) (a_kept : Nat) (a_text : Nat) (a_measure : Nat) (a_chosen : Nat) (a_ways : Nat) (a_owners : Nat) (a_ranks : Nat) (a_sets : Nat) (a_toldAt : Nat) (a_line : Nat) (N : Nat) (zisKept : Int32) (zpasts : Int32) (ztext : Nat → Int32) (ztyped : Int32) (zmost1 : Int32) (zmost3 : Int32) (zmost5 : Int32) (zspot : Int32) (zreason : Int32) (zplaces : Int32) (zsets : Nat → Int32) (ztoldAt : Nat → Int32) (zline : Nat → Int32) (y : Int32 × Int32 × Int32 × (Nat → Int32) × (Nat → Int32) × (Nat → Int32)) (h : f_X4_readsWay N ztext ztyped zspot zreason zplaces zsets ztoldAt zline = some y) : CTi l yX4_readsWay cX4_readsWay 3 (some .boolean) 2 44 D (tyL cI cC cH) [.ref a0] [(a0, .inr (3, [.ref a_s, .ref a_past, .ref a_kept, .int zisKept, .int zpasts, .ref a_text, .int ztyped, .ref a_measure, .int zmost1, .int zmost3, .int zmost5, .ref a_chosen, .ref a_ways, .int zspot, .int zreason, .int zplaces, .ref a_owners, .ref a_ranks, .ref a_sets, .ref a_toldAt, .ref a_line])), (a_text, .inl (cI, 80, .inl ztext)), (a_sets, .inl (cI, 12, .inl zsets)), (a_toldAt, .inl (cI, 100, .inl ztoldAt)), (a_line, .inl (cI, 100, .inl zline))] [(a0, .inr (3, [.ref a_s, .ref a_past, .ref a_kept, .int zisKept, .int zpasts, .ref a_text, .int ztyped, .ref a_measure, .int zmost1, .int zmost3, .int zmost5, .ref a_chosen, .ref a_ways, .int y.2.1, .int y.2.2.1, .int zplaces, .ref a_owners, .ref a_ranks, .ref a_sets, .ref a_toldAt, .ref a_line])), (a_text, .inl (cI, 80, .inl ztext)), (a_sets, .inl (cI, 12, .inl y.2.2.2.1)), (a_toldAt, .inl (cI, 100, .inl y.2.2.2.2.1)), (a_line, .inl (cI, 100, .inl y.2.2.2.2.2))] y.1 := by
  unfold f_X4_readsWay at h
  refine ctZ (by decide) (Nat.le_of_ble_eq_true rfl) ?_
  intro p e s m args below meth c A Q ls F hret hP hD hS hl
  have hx := F.1
  have hb := F.2.1
  have hown : s.vm.findClass RX4 = some m.cls := F.2.2.2.1
  have hts := F.2.2.2.2.1
  have hN := F.2.2.2.2.2.1
  have hK := F.2.2.2.2.2.2.1
  have hl : lv_has ls 3 [(0, .ref a0)] := hl
  refine lv_aload_n hx hb dX4_readsWay_0 rfl (lv_at hl 0 rfl) ?_
  refine va_get (D := D) (ci := 3) (v := .int zspot) (C := RX4) (T := TX4) (N := 21) hx hb hts inG4 hown hK hP 0 rfl rfl 13 (by decide) (hts _ wd2_165) (fun _ h9 => h9) rfl dX4_readsWay_1 ?_
  refine lv_istore_n (lv' := [(1, .int zspot), (0, .ref a0)]) hx hb dX4_readsWay_4 rfl hl (by decide) rfl (fun ls hl => ?_)
  refine lv_aload_n hx hb dX4_readsWay_5 rfl (lv_at hl 1 rfl) ?_
  refine lv_bipush (v := 48) hx hb dX4_readsWay_6 (by decide) ?_
  refine lv_bipush (v := 57) hx hb dX4_readsWay_8 (by decide) ?_
  obtain ⟨q1, hq2, h⟩ := bd h
  refine kvI (ws' := [(a0, .inr (3, [.ref a_s, .ref a_past, .ref a_kept, .int zisKept, .int zpasts, .ref a_text, .int ztyped, .ref a_measure, .int zmost1, .int zmost3, .int zmost5, .ref a_chosen, .ref a_ways, .int zspot, .int zreason, .int zplaces, .ref a_owners, .ref a_ranks, .ref a_sets, .ref a_toldAt, .ref a_line])), (a_text, .inl (cI, 80, .inl ztext)), (a_sets, .inl (cI, 12, .inl zsets)), (a_toldAt, .inl (cI, 100, .inl ztoldAt)), (a_line, .inl (cI, 100, .inl zline))]) (wr := [(a_sets, .inl (cI, 12, .inl zsets)), (a_toldAt, .inl (cI, 100, .inl ztoldAt)), (a_line, .inl (cI, 100, .inl zline))]) (As := [.int 48, .int 57]) F (c_X4_isAt l D cI cC cH a0 a_s a_past a_kept a_text a_measure a_chosen a_ways a_owners a_ranks a_sets a_toldAt a_line N 48 57 zisKept zpasts ztext ztyped zmost1 zmost3 zmost5 zspot zreason zplaces q1 hq2) yfX4_isAt ⟨wd3_156, wd3_158, wdp_39⟩ hP hD hS [0, 1] [2, 3, 4] [3, 4, 0, 1, 2] rfl rfl (by decide) (by decide) (by decide) rfl (by decide) 0 3 rfl rfl rfl ⟨Nat.le_of_ble_eq_true rfl, Nat.le_of_ble_eq_true rfl, Nat.zero_le _, Nat.zero_le _⟩ rfl hl rfl (Nat.le_of_ble_eq_true rfl) dX4_readsWay_10 (fun H locs hP hD hS => ?_)
  refine lv_if_ne (tgt := 22) hx hb dX4_readsWay_13 (by decide) (fun c3 => ?_) (fun c3 => ?_)
  · have h := itF h c3
    refine lv_aload_n hx hb dX4_readsWay_22 rfl (lv_at hl 1 rfl) ?_
    refine va_get (D := D) (ci := 3) (v := .ref a_text) (C := RX4) (T := TX4) (N := 21) hx hb hts inG4 hown hK hP 0 rfl rfl 5 (by decide) (hts _ wd2_157) (fun _ h9 => h9) rfl dX4_readsWay_23 ?_
    refine lv_aload_n hx hb dX4_readsWay_26 rfl (lv_at hl 1 rfl) ?_
    refine va_get (D := D) (ci := 3) (v := .int zspot) (C := RX4) (T := TX4) (N := 21) hx hb hts inG4 hown hK hP 0 rfl rfl 13 (by decide) (hts _ wd2_165) (fun _ h9 => h9) rfl dX4_readsWay_27 ?_
    obtain ⟨g4, h⟩ := chk_s h
    refine va_iald hx hb hK hP 1 0 rfl rfl (gi_in g4) dX4_readsWay_30 ?_
    refine lv_bipush (v := 48) hx hb dX4_readsWay_31 (by decide) ?_
    refine lv_isub hx hb dX4_readsWay_33 ?_
    refine lv_istore_n (lv' := [(2, .int ((ztext (Int32.toNatClampNeg zspot)) - 48)), (1, .int zspot), (0, .ref a0)]) hx hb dX4_readsWay_34 rfl hl (by decide) rfl (fun ls hl => ?_)
    refine lv_aload_n hx hb dX4_readsWay_35 rfl (lv_at hl 2 rfl) ?_
    refine lv_dup hx hb dX4_readsWay_36 rfl ?_
    refine va_get (D := D) (ci := 3) (v := .int zspot) (C := RX4) (T := TX4) (N := 21) hx hb hts inG4 hown hK hP 0 rfl rfl 13 (by decide) (hts _ wd2_165) (fun _ h9 => h9) rfl dX4_readsWay_37 ?_
    refine lv_iconst (v := 1) hx hb dX4_readsWay_40 (by decide) ?_
    refine lv_iadd hx hb dX4_readsWay_41 ?_
    refine va_put (D := D) (ci := 3) (v := .int (zspot + 1)) (ty := .int) (C := RX4) (T := TX4) (N := 21) hx hb hts inG4 tyX4 tyX4_ok nmX4 hown hK hP hD hS 0 rfl rfl 13 (by decide) (hts _ wd2_165) (fun _ h9 => h9) rfl (by decide +kernel) rfl rfl (Nat.le_of_ble_eq_true rfl) dX4_readsWay_42 (fun H locs hP hD hS => ?_)
    have hP : va_P D vwCl [(a0, .inr (3, [.ref a_s, .ref a_past, .ref a_kept, .int zisKept, .int zpasts, .ref a_text, .int ztyped, .ref a_measure, .int zmost1, .int zmost3, .int zmost5, .ref a_chosen, .ref a_ways, .int (zspot + 1), .int zreason, .int zplaces, .ref a_owners, .ref a_ranks, .ref a_sets, .ref a_toldAt, .ref a_line])), (a_text, .inl (cI, 80, .inl ztext)), (a_sets, .inl (cI, 12, .inl zsets)), (a_toldAt, .inl (cI, 100, .inl ztoldAt)), (a_line, .inl (cI, 100, .inl zline))] H := hP
    have hD : va_D A [(a0, .inr (3, [.ref a_s, .ref a_past, .ref a_kept, .int zisKept, .int zpasts, .ref a_text, .int ztyped, .ref a_measure, .int zmost1, .int zmost3, .int zmost5, .ref a_chosen, .ref a_ways, .int (zspot + 1), .int zreason, .int zplaces, .ref a_owners, .ref a_ranks, .ref a_sets, .ref a_toldAt, .ref a_line])), (a_text, .inl (cI, 80, .inl ztext)), (a_sets, .inl (cI, 12, .inl zsets)), (a_toldAt, .inl (cI, 100, .inl ztoldAt)), (a_line, .inl (cI, 100, .inl zline))] := hD
    refine lv_iload_n hx hb dX4_readsWay_45 rfl (lv_at hl 0 rfl) ?_
    obtain ⟨q6, hb34, h⟩ := bd h
    have J7 : ∀ (ls : Array Slot) (H : Heap) (locs : List Loc), lv_has ls 3 [(0, .ref a0), (1, .int zspot), (2, .int q6.1)] → va_P D vwCl [(a0, .inr (3, [.ref a_s, .ref a_past, .ref a_kept, .int zisKept, .int zpasts, .ref a_text, .int ztyped, .ref a_measure, .int zmost1, .int zmost3, .int zmost5, .ref a_chosen, .ref a_ways, .int q6.2, .int zreason, .int zplaces, .ref a_owners, .ref a_ranks, .ref a_sets, .ref a_toldAt, .ref a_line])), (a_text, .inl (cI, 80, .inl ztext)), (a_sets, .inl (cI, 12, .inl zsets)), (a_toldAt, .inl (cI, 100, .inl ztoldAt)), (a_line, .inl (cI, 100, .inl zline))] H → va_D A [(a0, .inr (3, [.ref a_s, .ref a_past, .ref a_kept, .int zisKept, .int zpasts, .ref a_text, .int ztyped, .ref a_measure, .int zmost1, .int zmost3, .int zmost5, .ref a_chosen, .ref a_ways, .int q6.2, .int zreason, .int zplaces, .ref a_owners, .ref a_ranks, .ref a_sets, .ref a_toldAt, .ref a_line])), (a_text, .inl (cI, 80, .inl ztext)), (a_sets, .inl (cI, 12, .inl zsets)), (a_toldAt, .inl (cI, 100, .inl ztoldAt)), (a_line, .inl (cI, 100, .inl zline))] → va_S A s.heap H locs → W p l e (rmm 2 44) s m args below meth c H locs 0 0 Q (F0 m 88 ls []) := by
      intro ls H locs hl hP hD hS
      refine lv_aload_n hx hb dX4_readsWay_88 rfl (lv_at hl 0 rfl) ?_
      refine va_get (D := D) (ci := 3) (v := .ref a_line) (C := RX4) (T := TX4) (N := 21) hx hb hts inG4 hown hK hP 0 rfl rfl 20 (by decide) (hts _ wd2_172) (fun _ h9 => h9) rfl dX4_readsWay_89 ?_
      refine lv_iload_n hx hb dX4_readsWay_92 rfl (lv_at hl 2 rfl) ?_
      obtain ⟨g13, h⟩ := chk_s h
      refine va_iald hx hb hK hP 4 0 rfl rfl (gi_in g13) dX4_readsWay_93 ?_
      refine lv_aload_n hx hb dX4_readsWay_94 rfl (lv_at hl 0 rfl) ?_
      refine va_get (D := D) (ci := 3) (v := .int zplaces) (C := RX4) (T := TX4) (N := 21) hx hb hts inG4 hown hK hP 0 rfl rfl 15 (by decide) (hts _ wd2_167) (fun _ h9 => h9) rfl dX4_readsWay_95 ?_
      refine lv_iconst (v := 1) hx hb dX4_readsWay_98 (by decide) ?_
      refine lv_iadd hx hb dX4_readsWay_99 ?_
      refine lv_icmp_ne (tgt := 114) hx hb dX4_readsWay_100 (by decide) (fun c14 => ?_) (fun c14 => ?_)
      · have h := itF h c14
        refine lv_aload_n hx hb dX4_readsWay_114 rfl (lv_at hl 0 rfl) ?_
        refine va_get (D := D) (ci := 3) (v := .ref a_line) (C := RX4) (T := TX4) (N := 21) hx hb hts inG4 hown hK hP 0 rfl rfl 20 (by decide) (hts _ wd2_172) (fun _ h9 => h9) rfl dX4_readsWay_115 ?_
        refine lv_iload_n hx hb dX4_readsWay_118 rfl (lv_at hl 2 rfl) ?_
        refine lv_aload_n hx hb dX4_readsWay_119 rfl (lv_at hl 0 rfl) ?_
        refine va_get (D := D) (ci := 3) (v := .int zplaces) (C := RX4) (T := TX4) (N := 21) hx hb hts inG4 hown hK hP 0 rfl rfl 15 (by decide) (hts _ wd2_167) (fun _ h9 => h9) rfl dX4_readsWay_120 ?_
        refine lv_iconst (v := 1) hx hb dX4_readsWay_123 (by decide) ?_
        refine lv_iadd hx hb dX4_readsWay_124 ?_
        obtain ⟨g15, h⟩ := chk_s h
        refine va_iast hx hb hK hP hD hS 4 0 rfl rfl (gi_in g15) dX4_readsWay_125 (fun H locs hP hD hS => ?_)
        have hP : va_P D vwCl [(a0, .inr (3, [.ref a_s, .ref a_past, .ref a_kept, .int zisKept, .int zpasts, .ref a_text, .int ztyped, .ref a_measure, .int zmost1, .int zmost3, .int zmost5, .ref a_chosen, .ref a_ways, .int q6.2, .int zreason, .int zplaces, .ref a_owners, .ref a_ranks, .ref a_sets, .ref a_toldAt, .ref a_line])), (a_text, .inl (cI, 80, .inl ztext)), (a_sets, .inl (cI, 12, .inl zsets)), (a_toldAt, .inl (cI, 100, .inl ztoldAt)), (a_line, .inl (cI, 100, .inl (upd zline (Int32.toNatClampNeg q6.1) (zplaces + 1))))] H := hP
        have hD : va_D A [(a0, .inr (3, [.ref a_s, .ref a_past, .ref a_kept, .int zisKept, .int zpasts, .ref a_text, .int ztyped, .ref a_measure, .int zmost1, .int zmost3, .int zmost5, .ref a_chosen, .ref a_ways, .int q6.2, .int zreason, .int zplaces, .ref a_owners, .ref a_ranks, .ref a_sets, .ref a_toldAt, .ref a_line])), (a_text, .inl (cI, 80, .inl ztext)), (a_sets, .inl (cI, 12, .inl zsets)), (a_toldAt, .inl (cI, 100, .inl ztoldAt)), (a_line, .inl (cI, 100, .inl (upd zline (Int32.toNatClampNeg q6.1) (zplaces + 1))))] := hD
        refine lv_aload_n hx hb dX4_readsWay_126 rfl (lv_at hl 0 rfl) ?_
        refine va_get (D := D) (ci := 3) (v := .ref a_toldAt) (C := RX4) (T := TX4) (N := 21) hx hb hts inG4 hown hK hP 0 rfl rfl 19 (by decide) (hts _ wd2_171) (fun _ h9 => h9) rfl dX4_readsWay_127 ?_
        refine lv_iload_n hx hb dX4_readsWay_130 rfl (lv_at hl 2 rfl) ?_
        refine lv_aload_n hx hb dX4_readsWay_131 rfl (lv_at hl 0 rfl) ?_
        refine va_get (D := D) (ci := 3) (v := .ref a_toldAt) (C := RX4) (T := TX4) (N := 21) hx hb hts inG4 hown hK hP 0 rfl rfl 19 (by decide) (hts _ wd2_171) (fun _ h9 => h9) rfl dX4_readsWay_132 ?_
        refine lv_iload_n hx hb dX4_readsWay_135 rfl (lv_at hl 2 rfl) ?_
        obtain ⟨g16, h⟩ := chk_s h
        refine va_iald hx hb hK hP 3 0 rfl rfl (gi_in g16) dX4_readsWay_136 ?_
        obtain ⟨q18, hb30, h⟩ := bd h
        have J19 : ∀ (ls : Array Slot) (H : Heap) (locs : List Loc), lv_has ls 3 [(0, .ref a0), (2, .int q6.1)] → va_P D vwCl [(a0, .inr (3, [.ref a_s, .ref a_past, .ref a_kept, .int zisKept, .int zpasts, .ref a_text, .int ztyped, .ref a_measure, .int zmost1, .int zmost3, .int zmost5, .ref a_chosen, .ref a_ways, .int q6.2, .int zreason, .int zplaces, .ref a_owners, .ref a_ranks, .ref a_sets, .ref a_toldAt, .ref a_line])), (a_text, .inl (cI, 80, .inl ztext)), (a_sets, .inl (cI, 12, .inl zsets)), (a_toldAt, .inl (cI, 100, .inl ztoldAt)), (a_line, .inl (cI, 100, .inl (upd zline (Int32.toNatClampNeg q6.1) (zplaces + 1))))] H → va_D A [(a0, .inr (3, [.ref a_s, .ref a_past, .ref a_kept, .int zisKept, .int zpasts, .ref a_text, .int ztyped, .ref a_measure, .int zmost1, .int zmost3, .int zmost5, .ref a_chosen, .ref a_ways, .int q6.2, .int zreason, .int zplaces, .ref a_owners, .ref a_ranks, .ref a_sets, .ref a_toldAt, .ref a_line])), (a_text, .inl (cI, 80, .inl ztext)), (a_sets, .inl (cI, 12, .inl zsets)), (a_toldAt, .inl (cI, 100, .inl ztoldAt)), (a_line, .inl (cI, 100, .inl (upd zline (Int32.toNatClampNeg q6.1) (zplaces + 1))))] → va_S A s.heap H locs → W p l e (rmm 2 44) s m args below meth c H locs 0 0 Q (F0 m 150 ls [.int q18, .int q6.1, .ref a_toldAt]) := by
          intro ls H locs hl hP hD hS
          obtain ⟨g22, h⟩ := chk_s h
          refine va_iast hx hb hK hP hD hS 3 0 rfl rfl (gi_in g22) dX4_readsWay_150 (fun H locs hP hD hS => ?_)
          have hP : va_P D vwCl [(a0, .inr (3, [.ref a_s, .ref a_past, .ref a_kept, .int zisKept, .int zpasts, .ref a_text, .int ztyped, .ref a_measure, .int zmost1, .int zmost3, .int zmost5, .ref a_chosen, .ref a_ways, .int q6.2, .int zreason, .int zplaces, .ref a_owners, .ref a_ranks, .ref a_sets, .ref a_toldAt, .ref a_line])), (a_text, .inl (cI, 80, .inl ztext)), (a_sets, .inl (cI, 12, .inl zsets)), (a_toldAt, .inl (cI, 100, .inl (upd ztoldAt (Int32.toNatClampNeg q6.1) q18))), (a_line, .inl (cI, 100, .inl (upd zline (Int32.toNatClampNeg q6.1) (zplaces + 1))))] H := hP
          have hD : va_D A [(a0, .inr (3, [.ref a_s, .ref a_past, .ref a_kept, .int zisKept, .int zpasts, .ref a_text, .int ztyped, .ref a_measure, .int zmost1, .int zmost3, .int zmost5, .ref a_chosen, .ref a_ways, .int q6.2, .int zreason, .int zplaces, .ref a_owners, .ref a_ranks, .ref a_sets, .ref a_toldAt, .ref a_line])), (a_text, .inl (cI, 80, .inl ztext)), (a_sets, .inl (cI, 12, .inl zsets)), (a_toldAt, .inl (cI, 100, .inl (upd ztoldAt (Int32.toNatClampNeg q6.1) q18))), (a_line, .inl (cI, 100, .inl (upd zline (Int32.toNatClampNeg q6.1) (zplaces + 1))))] := hD
          refine lv_aload_n hx hb dX4_readsWay_151 rfl (lv_at hl 0 rfl) ?_
          refine va_get (D := D) (ci := 3) (v := .ref a_sets) (C := RX4) (T := TX4) (N := 21) hx hb hts inG4 hown hK hP 0 rfl rfl 18 (by decide) (hts _ wd2_170) (fun _ h9 => h9) rfl dX4_readsWay_152 ?_
          refine lv_aload_n hx hb dX4_readsWay_155 rfl (lv_at hl 0 rfl) ?_
          refine va_get (D := D) (ci := 3) (v := .int zplaces) (C := RX4) (T := TX4) (N := 21) hx hb hts inG4 hown hK hP 0 rfl rfl 15 (by decide) (hts _ wd2_167) (fun _ h9 => h9) rfl dX4_readsWay_156 ?_
          refine lv_dup2_11 hx hb dX4_readsWay_159 rfl rfl ?_
          obtain ⟨g23, h⟩ := chk_s h
          refine va_iald hx hb hK hP 2 0 rfl rfl (gi_in g23) dX4_readsWay_160 ?_
          refine lv_iload_n hx hb dX4_readsWay_161 rfl (lv_at hl 1 rfl) ?_
          refine lv_bipush (v := 12) hx hb dX4_readsWay_162 (by decide) ?_
          obtain ⟨q25, hb29, h⟩ := bd h
          have J26 : ∀ (ls : Array Slot) (H : Heap) (locs : List Loc), lv_has ls 3 [] → va_P D vwCl [(a0, .inr (3, [.ref a_s, .ref a_past, .ref a_kept, .int zisKept, .int zpasts, .ref a_text, .int ztyped, .ref a_measure, .int zmost1, .int zmost3, .int zmost5, .ref a_chosen, .ref a_ways, .int q6.2, .int zreason, .int zplaces, .ref a_owners, .ref a_ranks, .ref a_sets, .ref a_toldAt, .ref a_line])), (a_text, .inl (cI, 80, .inl ztext)), (a_sets, .inl (cI, 12, .inl zsets)), (a_toldAt, .inl (cI, 100, .inl (upd ztoldAt (Int32.toNatClampNeg q6.1) q18))), (a_line, .inl (cI, 100, .inl (upd zline (Int32.toNatClampNeg q6.1) (zplaces + 1))))] H → va_D A [(a0, .inr (3, [.ref a_s, .ref a_past, .ref a_kept, .int zisKept, .int zpasts, .ref a_text, .int ztyped, .ref a_measure, .int zmost1, .int zmost3, .int zmost5, .ref a_chosen, .ref a_ways, .int q6.2, .int zreason, .int zplaces, .ref a_owners, .ref a_ranks, .ref a_sets, .ref a_toldAt, .ref a_line])), (a_text, .inl (cI, 80, .inl ztext)), (a_sets, .inl (cI, 12, .inl zsets)), (a_toldAt, .inl (cI, 100, .inl (upd ztoldAt (Int32.toNatClampNeg q6.1) q18))), (a_line, .inl (cI, 100, .inl (upd zline (Int32.toNatClampNeg q6.1) (zplaces + 1))))] → va_S A s.heap H locs → W p l e (rmm 2 44) s m args below meth c H locs 0 0 Q (F0 m 174 ls [.int q25, .int (zsets (Int32.toNatClampNeg zplaces)), .int zplaces, .ref a_sets]) := by
            intro ls H locs hl hP hD hS
            refine lv_ior hx hb dX4_readsWay_174 ?_
            obtain ⟨g28, h⟩ := chk_s h
            refine va_iast hx hb hK hP hD hS 2 0 rfl rfl (gi_in g28) dX4_readsWay_175 (fun H locs hP hD hS => ?_)
            have hP : va_P D vwCl [(a0, .inr (3, [.ref a_s, .ref a_past, .ref a_kept, .int zisKept, .int zpasts, .ref a_text, .int ztyped, .ref a_measure, .int zmost1, .int zmost3, .int zmost5, .ref a_chosen, .ref a_ways, .int q6.2, .int zreason, .int zplaces, .ref a_owners, .ref a_ranks, .ref a_sets, .ref a_toldAt, .ref a_line])), (a_text, .inl (cI, 80, .inl ztext)), (a_sets, .inl (cI, 12, .inl (upd zsets (Int32.toNatClampNeg zplaces) ((zsets (Int32.toNatClampNeg zplaces)) ||| q25)))), (a_toldAt, .inl (cI, 100, .inl (upd ztoldAt (Int32.toNatClampNeg q6.1) q18))), (a_line, .inl (cI, 100, .inl (upd zline (Int32.toNatClampNeg q6.1) (zplaces + 1))))] H := hP
            have hD : va_D A [(a0, .inr (3, [.ref a_s, .ref a_past, .ref a_kept, .int zisKept, .int zpasts, .ref a_text, .int ztyped, .ref a_measure, .int zmost1, .int zmost3, .int zmost5, .ref a_chosen, .ref a_ways, .int q6.2, .int zreason, .int zplaces, .ref a_owners, .ref a_ranks, .ref a_sets, .ref a_toldAt, .ref a_line])), (a_text, .inl (cI, 80, .inl ztext)), (a_sets, .inl (cI, 12, .inl (upd zsets (Int32.toNatClampNeg zplaces) ((zsets (Int32.toNatClampNeg zplaces)) ||| q25)))), (a_toldAt, .inl (cI, 100, .inl (upd ztoldAt (Int32.toNatClampNeg q6.1) q18))), (a_line, .inl (cI, 100, .inl (upd zline (Int32.toNatClampNeg q6.1) (zplaces + 1))))] := hD
            refine lv_iconst (v := 1) hx hb dX4_readsWay_176 (by decide) ?_
            obtain rfl := Option.some.inj h
            exact hret _ _ _ _ _ rfl rfl hP hD hS dX4_readsWay_177
          clear h
          have h := hb29
          clear hb29
          refine lv_icmp_ge (tgt := 173) hx hb dX4_readsWay_164 (by decide) (fun c24 => ?_) (fun c24 => ?_)
          · have h := itT h c24
            refine lv_iconst (v := 0) hx hb dX4_readsWay_173 (by decide) ?_
            obtain rfl := Option.some.inj h
            exact J26 _ _ _ (lv_sub hl [] rfl) hP hD hS
          · have h := itF h c24
            refine lv_iconst (v := 1) hx hb dX4_readsWay_167 (by decide) ?_
            refine lv_iload_n hx hb dX4_readsWay_168 rfl (lv_at hl 1 rfl) ?_
            refine lv_ishl hx hb dX4_readsWay_169 ?_
            refine lv_goto (tgt := 174) hx hb dX4_readsWay_170 (by decide) ?_
            obtain rfl := Option.some.inj h
            exact J26 _ _ _ (lv_sub hl [] rfl) hP hD hS
        clear h
        have h := hb30
        clear hb30
        refine lv_if_ge (tgt := 144) hx hb dX4_readsWay_137 (by decide) (fun c17 => ?_) (fun c17 => ?_)
        · have h := itT h c17
          refine lv_aload_n hx hb dX4_readsWay_144 rfl (lv_at hl 0 rfl) ?_
          refine va_get (D := D) (ci := 3) (v := .ref a_toldAt) (C := RX4) (T := TX4) (N := 21) hx hb hts inG4 hown hK hP 0 rfl rfl 19 (by decide) (hts _ wd2_171) (fun _ h9 => h9) rfl dX4_readsWay_145 ?_
          refine lv_iload_n hx hb dX4_readsWay_148 rfl (lv_at hl 2 rfl) ?_
          obtain ⟨g21, h⟩ := chk_s h
          refine va_iald hx hb hK hP 3 0 rfl rfl (gi_in g21) dX4_readsWay_149 ?_
          obtain rfl := Option.some.inj h
          exact J19 _ _ _ (lv_sub hl [0, 2] rfl) hP hD hS
        · have h := itF h c17
          refine lv_iload_n hx hb dX4_readsWay_140 rfl (lv_at hl 1 rfl) ?_
          refine lv_goto (tgt := 150) hx hb dX4_readsWay_141 (by decide) ?_
          obtain rfl := Option.some.inj h
          exact J19 _ _ _ (lv_sub hl [0, 2] rfl) hP hD hS
      · have h := itT h c14
        refine lv_aload_n hx hb dX4_readsWay_103 rfl (lv_at hl 0 rfl) ?_
        refine lv_iload_n hx hb dX4_readsWay_104 rfl (lv_at hl 1 rfl) ?_
        refine va_put (D := D) (ci := 3) (v := .int zspot) (ty := .int) (C := RX4) (T := TX4) (N := 21) hx hb hts inG4 tyX4 tyX4_ok nmX4 hown hK hP hD hS 0 rfl rfl 13 (by decide) (hts _ wd2_165) (fun _ h9 => h9) rfl (by decide +kernel) rfl rfl (Nat.le_of_ble_eq_true rfl) dX4_readsWay_105 (fun H locs hP hD hS => ?_)
        have hP : va_P D vwCl [(a0, .inr (3, [.ref a_s, .ref a_past, .ref a_kept, .int zisKept, .int zpasts, .ref a_text, .int ztyped, .ref a_measure, .int zmost1, .int zmost3, .int zmost5, .ref a_chosen, .ref a_ways, .int zspot, .int zreason, .int zplaces, .ref a_owners, .ref a_ranks, .ref a_sets, .ref a_toldAt, .ref a_line])), (a_text, .inl (cI, 80, .inl ztext)), (a_sets, .inl (cI, 12, .inl zsets)), (a_toldAt, .inl (cI, 100, .inl ztoldAt)), (a_line, .inl (cI, 100, .inl zline))] H := hP
        have hD : va_D A [(a0, .inr (3, [.ref a_s, .ref a_past, .ref a_kept, .int zisKept, .int zpasts, .ref a_text, .int ztyped, .ref a_measure, .int zmost1, .int zmost3, .int zmost5, .ref a_chosen, .ref a_ways, .int zspot, .int zreason, .int zplaces, .ref a_owners, .ref a_ranks, .ref a_sets, .ref a_toldAt, .ref a_line])), (a_text, .inl (cI, 80, .inl ztext)), (a_sets, .inl (cI, 12, .inl zsets)), (a_toldAt, .inl (cI, 100, .inl ztoldAt)), (a_line, .inl (cI, 100, .inl zline))] := hD
        refine lv_aload_n hx hb dX4_readsWay_108 rfl (lv_at hl 0 rfl) ?_
        refine lv_iconst (v := 3) hx hb dX4_readsWay_109 (by decide) ?_
        obtain ⟨q31, hq32, h⟩ := bd h
        refine kvI (ws' := [(a0, .inr (3, [.ref a_s, .ref a_past, .ref a_kept, .int zisKept, .int zpasts, .ref a_text, .int ztyped, .ref a_measure, .int zmost1, .int zmost3, .int zmost5, .ref a_chosen, .ref a_ways, .int zspot, .int q31.2, .int zplaces, .ref a_owners, .ref a_ranks, .ref a_sets, .ref a_toldAt, .ref a_line])), (a_text, .inl (cI, 80, .inl ztext)), (a_sets, .inl (cI, 12, .inl zsets)), (a_toldAt, .inl (cI, 100, .inl ztoldAt)), (a_line, .inl (cI, 100, .inl zline))]) (wr := [(a_text, .inl (cI, 80, .inl ztext)), (a_sets, .inl (cI, 12, .inl zsets)), (a_toldAt, .inl (cI, 100, .inl ztoldAt)), (a_line, .inl (cI, 100, .inl zline))]) (As := [.int 3]) F (c_X4_fails l D cI cC cH a0 a_s a_past a_kept a_text a_measure a_chosen a_ways a_owners a_ranks a_sets a_toldAt a_line N 3 zisKept zpasts ztyped zmost1 zmost3 zmost5 zspot zreason zplaces q31 hq32) yfX4_fails ⟨wd3_160, wd3_162, wdp_40⟩ hP hD hS [0] [1, 2, 3, 4] [4, 0, 1, 2, 3] rfl rfl (by decide) (by decide) (by decide) rfl (by decide) 0 3 rfl rfl rfl ⟨Nat.le_of_ble_eq_true rfl, Nat.le_of_ble_eq_true rfl, Nat.zero_le _, Nat.zero_le _⟩ rfl hl rfl (Nat.le_of_ble_eq_true rfl) dX4_readsWay_110 (fun H locs hP hD hS => ?_)
        obtain ⟨g33, h⟩ := chk_s h
        obtain rfl := Option.some.inj h
        exact hret _ _ _ _ _ (isZ_n g33) rfl hP hD hS dX4_readsWay_113
    clear h
    have h := hb34
    clear hb34
    refine lv_if_le (tgt := 88) hx hb dX4_readsWay_46 (by decide) (fun c5 => ?_) (fun c5 => ?_)
    · have h := itT h c5
      obtain rfl := Option.some.inj h
      exact J7 _ _ _ (lv_sub hl [2, 1, 0] rfl) hP hD hS
    · have h := itF h c5
      refine lv_aload_n hx hb dX4_readsWay_49 rfl (lv_at hl 2 rfl) ?_
      refine lv_bipush (v := 48) hx hb dX4_readsWay_50 (by decide) ?_
      refine lv_bipush (v := 57) hx hb dX4_readsWay_52 (by decide) ?_
      obtain ⟨q9, hq10, h⟩ := bd h
      refine kvI (ws' := [(a0, .inr (3, [.ref a_s, .ref a_past, .ref a_kept, .int zisKept, .int zpasts, .ref a_text, .int ztyped, .ref a_measure, .int zmost1, .int zmost3, .int zmost5, .ref a_chosen, .ref a_ways, .int (zspot + 1), .int zreason, .int zplaces, .ref a_owners, .ref a_ranks, .ref a_sets, .ref a_toldAt, .ref a_line])), (a_text, .inl (cI, 80, .inl ztext)), (a_sets, .inl (cI, 12, .inl zsets)), (a_toldAt, .inl (cI, 100, .inl ztoldAt)), (a_line, .inl (cI, 100, .inl zline))]) (wr := [(a_sets, .inl (cI, 12, .inl zsets)), (a_toldAt, .inl (cI, 100, .inl ztoldAt)), (a_line, .inl (cI, 100, .inl zline))]) (As := [.int 48, .int 57]) F (c_X4_isAt l D cI cC cH a0 a_s a_past a_kept a_text a_measure a_chosen a_ways a_owners a_ranks a_sets a_toldAt a_line N 48 57 zisKept zpasts ztext ztyped zmost1 zmost3 zmost5 (zspot + 1) zreason zplaces q9 hq10) yfX4_isAt ⟨wd3_156, wd3_158, wdp_39⟩ hP hD hS [0, 1] [2, 3, 4] [3, 4, 0, 1, 2] rfl rfl (by decide) (by decide) (by decide) rfl (by decide) 0 3 rfl rfl rfl ⟨Nat.le_of_ble_eq_true rfl, Nat.le_of_ble_eq_true rfl, Nat.zero_le _, Nat.zero_le _⟩ rfl hl rfl (Nat.le_of_ble_eq_true rfl) dX4_readsWay_54 (fun H locs hP hD hS => ?_)
      refine lv_if_eq (tgt := 88) hx hb dX4_readsWay_57 (by decide) (fun c11 => ?_) (fun c11 => ?_)
      · have h := itT h c11
        obtain rfl := Option.some.inj h
        exact J7 _ _ _ (lv_sub hl [2, 1, 0] rfl) hP hD hS
      · have h := itF h c11
        refine lv_bipush (v := 10) hx hb dX4_readsWay_60 (by decide) ?_
        refine lv_iload_n hx hb dX4_readsWay_62 rfl (lv_at hl 0 rfl) ?_
        refine lv_imul hx hb dX4_readsWay_63 ?_
        refine lv_aload_n hx hb dX4_readsWay_64 rfl (lv_at hl 2 rfl) ?_
        refine va_get (D := D) (ci := 3) (v := .ref a_text) (C := RX4) (T := TX4) (N := 21) hx hb hts inG4 hown hK hP 0 rfl rfl 5 (by decide) (hts _ wd2_157) (fun _ h9 => h9) rfl dX4_readsWay_65 ?_
        refine lv_aload_n hx hb dX4_readsWay_68 rfl (lv_at hl 2 rfl) ?_
        refine va_get (D := D) (ci := 3) (v := .int (zspot + 1)) (C := RX4) (T := TX4) (N := 21) hx hb hts inG4 hown hK hP 0 rfl rfl 13 (by decide) (hts _ wd2_165) (fun _ h9 => h9) rfl dX4_readsWay_69 ?_
        obtain ⟨g12, h⟩ := chk_s h
        refine va_iald hx hb hK hP 1 0 rfl rfl (gi_in g12) dX4_readsWay_72 ?_
        refine lv_iadd hx hb dX4_readsWay_73 ?_
        refine lv_bipush (v := 48) hx hb dX4_readsWay_74 (by decide) ?_
        refine lv_isub hx hb dX4_readsWay_76 ?_
        refine lv_istore_n (lv' := [(2, .int (((10 * ((ztext (Int32.toNatClampNeg zspot)) - 48)) + (ztext (Int32.toNatClampNeg (zspot + 1)))) - 48)), (1, .int zspot), (0, .ref a0)]) hx hb dX4_readsWay_77 rfl hl (by decide) rfl (fun ls hl => ?_)
        refine lv_aload_n hx hb dX4_readsWay_78 rfl (lv_at hl 2 rfl) ?_
        refine lv_dup hx hb dX4_readsWay_79 rfl ?_
        refine va_get (D := D) (ci := 3) (v := .int (zspot + 1)) (C := RX4) (T := TX4) (N := 21) hx hb hts inG4 hown hK hP 0 rfl rfl 13 (by decide) (hts _ wd2_165) (fun _ h9 => h9) rfl dX4_readsWay_80 ?_
        refine lv_iconst (v := 1) hx hb dX4_readsWay_83 (by decide) ?_
        refine lv_iadd hx hb dX4_readsWay_84 ?_
        refine va_put (D := D) (ci := 3) (v := .int ((zspot + 1) + 1)) (ty := .int) (C := RX4) (T := TX4) (N := 21) hx hb hts inG4 tyX4 tyX4_ok nmX4 hown hK hP hD hS 0 rfl rfl 13 (by decide) (hts _ wd2_165) (fun _ h9 => h9) rfl (by decide +kernel) rfl rfl (Nat.le_of_ble_eq_true rfl) dX4_readsWay_85 (fun H locs hP hD hS => ?_)
        have hP : va_P D vwCl [(a0, .inr (3, [.ref a_s, .ref a_past, .ref a_kept, .int zisKept, .int zpasts, .ref a_text, .int ztyped, .ref a_measure, .int zmost1, .int zmost3, .int zmost5, .ref a_chosen, .ref a_ways, .int ((zspot + 1) + 1), .int zreason, .int zplaces, .ref a_owners, .ref a_ranks, .ref a_sets, .ref a_toldAt, .ref a_line])), (a_text, .inl (cI, 80, .inl ztext)), (a_sets, .inl (cI, 12, .inl zsets)), (a_toldAt, .inl (cI, 100, .inl ztoldAt)), (a_line, .inl (cI, 100, .inl zline))] H := hP
        have hD : va_D A [(a0, .inr (3, [.ref a_s, .ref a_past, .ref a_kept, .int zisKept, .int zpasts, .ref a_text, .int ztyped, .ref a_measure, .int zmost1, .int zmost3, .int zmost5, .ref a_chosen, .ref a_ways, .int ((zspot + 1) + 1), .int zreason, .int zplaces, .ref a_owners, .ref a_ranks, .ref a_sets, .ref a_toldAt, .ref a_line])), (a_text, .inl (cI, 80, .inl ztext)), (a_sets, .inl (cI, 12, .inl zsets)), (a_toldAt, .inl (cI, 100, .inl ztoldAt)), (a_line, .inl (cI, 100, .inl zline))] := hD
        obtain rfl := Option.some.inj h
        exact J7 _ _ _ (lv_sub hl [2, 1, 0] rfl) hP hD hS
  · have h := itT h c3
    refine lv_aload_n hx hb dX4_readsWay_16 rfl (lv_at hl 1 rfl) ?_
    refine lv_iconst (v := 1) hx hb dX4_readsWay_17 (by decide) ?_
    obtain ⟨q35, hq36, h⟩ := bd h
    refine kvI (ws' := [(a0, .inr (3, [.ref a_s, .ref a_past, .ref a_kept, .int zisKept, .int zpasts, .ref a_text, .int ztyped, .ref a_measure, .int zmost1, .int zmost3, .int zmost5, .ref a_chosen, .ref a_ways, .int zspot, .int q35.2, .int zplaces, .ref a_owners, .ref a_ranks, .ref a_sets, .ref a_toldAt, .ref a_line])), (a_text, .inl (cI, 80, .inl ztext)), (a_sets, .inl (cI, 12, .inl zsets)), (a_toldAt, .inl (cI, 100, .inl ztoldAt)), (a_line, .inl (cI, 100, .inl zline))]) (wr := [(a_text, .inl (cI, 80, .inl ztext)), (a_sets, .inl (cI, 12, .inl zsets)), (a_toldAt, .inl (cI, 100, .inl ztoldAt)), (a_line, .inl (cI, 100, .inl zline))]) (As := [.int 1]) F (c_X4_fails l D cI cC cH a0 a_s a_past a_kept a_text a_measure a_chosen a_ways a_owners a_ranks a_sets a_toldAt a_line N 1 zisKept zpasts ztyped zmost1 zmost3 zmost5 zspot zreason zplaces q35 hq36) yfX4_fails ⟨wd3_160, wd3_162, wdp_40⟩ hP hD hS [0] [1, 2, 3, 4] [4, 0, 1, 2, 3] rfl rfl (by decide) (by decide) (by decide) rfl (by decide) 0 3 rfl rfl rfl ⟨Nat.le_of_ble_eq_true rfl, Nat.le_of_ble_eq_true rfl, Nat.zero_le _, Nat.zero_le _⟩ rfl hl rfl (Nat.le_of_ble_eq_true rfl) dX4_readsWay_18 (fun H locs hP hD hS => ?_)
    obtain ⟨g37, h⟩ := chk_s h
    obtain rfl := Option.some.inj h
    exact hret _ _ _ _ _ (isZ_n g37) rfl hP hD hS dX4_readsWay_21
def f_X4_readsPlace_L155 (N : Nat) (ztext_155 : Nat → Int32) (ztyped_155 : Int32) (zplaces_155 : Int32) : Nat → Int32 → Int32 → Int32 → Int32 → (Nat → Int32) → (Nat → Int32) → (Nat → Int32) → Option (Int32 × Int32 × Int32 × (Nat → Int32) × (Nat → Int32) × (Nat → Int32))
  | 0, _, _, _, _, _, _, _ => none
  | n_155 + 1, x1_155, x2_155, zspot_155, zreason_155, zsets_155, ztoldAt_155, zline_155 =>
    if x2_155 = 0 then (some (x1_155, zspot_155, zreason_155, zsets_155, ztoldAt_155, zline_155)) else (if x1_155 = 0 then (some (x1_155, zspot_155, zreason_155, zsets_155, ztoldAt_155, zline_155)) else (Option.bind (f_X4_readsWay N ztext_155 ztyped_155 (zspot_155 + 1) zreason_155 zplaces_155 zsets_155 ztoldAt_155 zline_155) (fun q32 => Option.bind (f_X4_isAt N 44 44 ztext_155 ztyped_155 q32.2.1) (fun q34 => f_X4_readsPlace_L155 N ztext_155 ztyped_155 zplaces_155 n_155 q32.1 q34 q32.2.1 q32.2.2.1 q32.2.2.2.1 q32.2.2.2.2.1 q32.2.2.2.2.2))))
def f_X4_readsPlace (N : Nat) (ztext : Nat → Int32) (ztyped : Int32) (zspot : Int32) (zreason : Int32) (zplaces : Int32) (zowners : Nat → Int32) (zranks : Nat → Int32) (zsets : Nat → Int32) (ztoldAt : Nat → Int32) (zline : Nat → Int32) : Option (Int32 × Int32 × Int32 × Int32 × (Nat → Int32) × (Nat → Int32) × (Nat → Int32) × (Nat → Int32) × (Nat → Int32)) :=
    Option.bind (f_X4_isAt N 101 101 ztext ztyped zspot) (fun q1 => Option.bind (α := (Int32 × Int32 × Int32 × Int32 × (Nat → Int32) × (Nat → Int32) × (Nat → Int32) × (Nat → Int32) × (Nat → Int32)) ⊕ (Int32)) (if q1 = 0 then (Option.bind (f_X4_isAt N 111 111 ztext ztyped zspot) (fun q8 => if q8 = 0 then (Option.bind (f_X4_fails N 1 zreason) (fun q11 => chk (isZ q11.1) (some (.inl (q11.1, zspot, q11.2, zplaces, zowners, zranks, zsets, ztoldAt, zline))))) else (some (.inr (zreason))))) else (some (.inr (zreason)))) (fun q4 => sm q4 some (fun t5 => chk (gi zspot 80) (Option.bind (α := Int32) (if (ztext (Int32.toNatClampNeg zspot)) = 111 then (some (1)) else (some (0))) (fun q16 => chk (gi zplaces 12) (Option.bind (f_X4_isAt N 48 57 ztext ztyped (zspot + 1)) (fun q20 => if q20 = 0 then (Option.bind (f_X4_fails N 1 t5) (fun q48 => chk (isZ q48.1) (some (q48.1, zspot + 1, q48.2, zplaces, upd zowners (Int32.toNatClampNeg zplaces) q16, zranks, zsets, ztoldAt, zline)))) else (chk (gi (zspot + 1) 80) (chk (gi zplaces 12) (chk (gi zplaces 12) (if ((upd zranks (Int32.toNatClampNeg zplaces) ((ztext (Int32.toNatClampNeg (zspot + 1))) - 48)) (Int32.toNatClampNeg zplaces)) < 6 then (chk (gi zplaces 12) (Option.bind (f_X4_isAt N 58 58 ztext ztyped ((zspot + 1) + 1)) (fun q28 => Option.bind (f_X4_readsPlace_L155 N ztext ztyped zplaces N 1 q28 ((zspot + 1) + 1) t5 (upd zsets (Int32.toNatClampNeg zplaces) 0) ztoldAt zline) (fun q37 => Option.bind (α := Int32) (if q37.1 = 0 then (some (0)) else (some (1))) (fun q39 => chk (isZ q37.1) (some (q37.1, q37.2.1, q37.2.2.1, zplaces + q39, upd zowners (Int32.toNatClampNeg zplaces) q16, upd zranks (Int32.toNatClampNeg zplaces) ((ztext (Int32.toNatClampNeg (zspot + 1))) - 48), q37.2.2.2.1, q37.2.2.2.2.1, q37.2.2.2.2.2))))))) else (Option.bind (f_X4_fails N 2 t5) (fun q45 => chk (isZ q45.1) (some (q45.1, zspot + 1, q45.2, zplaces, upd zowners (Int32.toNatClampNeg zplaces) q16, upd zranks (Int32.toNatClampNeg zplaces) ((ztext (Int32.toNatClampNeg (zspot + 1))) - 48), zsets, ztoldAt, zline)))))))))))))))
set_option maxHeartbeats 4000000 in
set_option maxRecDepth 100000 in
theorem c_X4_readsPlace (l : Launch) (D : va_G) (cI cC cH : ClassId) (a0 : Nat) (a_s : Nat) (a_past : Nat) (a_kept : Nat) (a_text : Nat) (a_measure : Nat) (a_chosen : Nat) (a_ways : Nat) (a_owners : Nat) (a_ranks : Nat) (a_sets : Nat) (a_toldAt : Nat) (a_line : Nat) (N : Nat) (zisKept : Int32) (zpasts : Int32) (ztext : Nat → Int32) (ztyped : Int32) (zmost1 : Int32) (zmost3 : Int32) (zmost5 : Int32) (zspot : Int32) (zreason : Int32) (zplaces : Int32) (zowners : Nat → Int32) (zranks : Nat → Int32) (zsets : Nat → Int32) (ztoldAt : Nat → Int32) (zline : Nat → Int32) (y : Int32 × Int32 × Int32 × Int32 × (Nat → Int32) × (Nat → Int32) × (Nat → Int32) × (Nat → Int32) × (Nat → Int32)) (h : f_X4_readsPlace N ztext ztyped zspot zreason zplaces zowners zranks zsets ztoldAt zline = some y) : CTi l yX4_readsPlace cX4_readsPlace 3 (some .boolean) 3 66 D (tyL cI cC cH) [.ref a0] [(a0, .inr (3, [.ref a_s, .ref a_past, .ref a_kept, .int zisKept, .int zpasts, .ref a_text, .int ztyped, .ref a_measure, .int zmost1, .int zmost3, .int zmost5, .ref a_chosen, .ref a_ways, .int zspot, .int zreason, .int zplaces, .ref a_owners, .ref a_ranks, .ref a_sets, .ref a_toldAt, .ref a_line])), (a_text, .inl (cI, 80, .inl ztext)), (a_owners, .inl (cI, 12, .inl zowners)), (a_ranks, .inl (cI, 12, .inl zranks)), (a_sets, .inl (cI, 12, .inl zsets)), (a_toldAt, .inl (cI, 100, .inl ztoldAt)), (a_line, .inl (cI, 100, .inl zline))] [(a0, .inr (3, [.ref a_s, .ref a_past, .ref a_kept, .int zisKept, .int zpasts, .ref a_text, .int ztyped, .ref a_measure, .int zmost1, .int zmost3, .int zmost5, .ref a_chosen, .ref a_ways, .int y.2.1, .int y.2.2.1, .int y.2.2.2.1, .ref a_owners, .ref a_ranks, .ref a_sets, .ref a_toldAt, .ref a_line])), (a_text, .inl (cI, 80, .inl ztext)), (a_owners, .inl (cI, 12, .inl y.2.2.2.2.1)), (a_ranks, .inl (cI, 12, .inl y.2.2.2.2.2.1)), (a_sets, .inl (cI, 12, .inl y.2.2.2.2.2.2.1)), (a_toldAt, .inl (cI, 100, .inl y.2.2.2.2.2.2.2.1)), (a_line, .inl (cI, 100, .inl y.2.2.2.2.2.2.2.2))] y.1 := by
  unfold f_X4_readsPlace at h
  refine ctZ (by decide) (Nat.le_of_ble_eq_true rfl) ?_
  intro p e s m args below meth c A Q ls F hret hP hD hS hl
  have hx := F.1
  have hb := F.2.1
  have hown : s.vm.findClass RX4 = some m.cls := F.2.2.2.1
  have hts := F.2.2.2.2.1
  have hN := F.2.2.2.2.2.1
  have hK := F.2.2.2.2.2.2.1
  have hl : lv_has ls 3 [(0, .ref a0)] := hl
  refine lv_aload_n hx hb dX4_readsPlace_0 rfl (lv_at hl 0 rfl) ?_
  refine lv_bipush (v := 101) hx hb dX4_readsPlace_1 (by decide) ?_
  refine lv_bipush (v := 101) hx hb dX4_readsPlace_3 (by decide) ?_
  obtain ⟨q1, hq2, h⟩ := bd h
  refine kvI (ws' := [(a0, .inr (3, [.ref a_s, .ref a_past, .ref a_kept, .int zisKept, .int zpasts, .ref a_text, .int ztyped, .ref a_measure, .int zmost1, .int zmost3, .int zmost5, .ref a_chosen, .ref a_ways, .int zspot, .int zreason, .int zplaces, .ref a_owners, .ref a_ranks, .ref a_sets, .ref a_toldAt, .ref a_line])), (a_text, .inl (cI, 80, .inl ztext)), (a_owners, .inl (cI, 12, .inl zowners)), (a_ranks, .inl (cI, 12, .inl zranks)), (a_sets, .inl (cI, 12, .inl zsets)), (a_toldAt, .inl (cI, 100, .inl ztoldAt)), (a_line, .inl (cI, 100, .inl zline))]) (wr := [(a_owners, .inl (cI, 12, .inl zowners)), (a_ranks, .inl (cI, 12, .inl zranks)), (a_sets, .inl (cI, 12, .inl zsets)), (a_toldAt, .inl (cI, 100, .inl ztoldAt)), (a_line, .inl (cI, 100, .inl zline))]) (As := [.int 101, .int 101]) F (c_X4_isAt l D cI cC cH a0 a_s a_past a_kept a_text a_measure a_chosen a_ways a_owners a_ranks a_sets a_toldAt a_line N 101 101 zisKept zpasts ztext ztyped zmost1 zmost3 zmost5 zspot zreason zplaces q1 hq2) yfX4_isAt ⟨wd3_156, wd3_158, wdp_39⟩ hP hD hS [0, 1] [2, 3, 4, 5, 6] [5, 6, 0, 1, 2, 3, 4] rfl rfl (by decide) (by decide) (by decide) rfl (by decide) 0 3 rfl rfl rfl ⟨Nat.le_of_ble_eq_true rfl, Nat.le_of_ble_eq_true rfl, Nat.zero_le _, Nat.zero_le _⟩ rfl hl rfl (Nat.le_of_ble_eq_true rfl) dX4_readsPlace_5 (fun H locs hP hD hS => ?_)
  obtain ⟨q4, hb52, h⟩ := bd h
  have J6 : ∀ t5, q4 = .inr t5 → ∀ (ls : Array Slot) (H : Heap) (locs : List Loc), lv_has ls 3 [(0, .ref a0)] → va_P D vwCl [(a0, .inr (3, [.ref a_s, .ref a_past, .ref a_kept, .int zisKept, .int zpasts, .ref a_text, .int ztyped, .ref a_measure, .int zmost1, .int zmost3, .int zmost5, .ref a_chosen, .ref a_ways, .int zspot, .int t5, .int zplaces, .ref a_owners, .ref a_ranks, .ref a_sets, .ref a_toldAt, .ref a_line])), (a_text, .inl (cI, 80, .inl ztext)), (a_owners, .inl (cI, 12, .inl zowners)), (a_ranks, .inl (cI, 12, .inl zranks)), (a_sets, .inl (cI, 12, .inl zsets)), (a_toldAt, .inl (cI, 100, .inl ztoldAt)), (a_line, .inl (cI, 100, .inl zline))] H → va_D A [(a0, .inr (3, [.ref a_s, .ref a_past, .ref a_kept, .int zisKept, .int zpasts, .ref a_text, .int ztyped, .ref a_measure, .int zmost1, .int zmost3, .int zmost5, .ref a_chosen, .ref a_ways, .int zspot, .int t5, .int zplaces, .ref a_owners, .ref a_ranks, .ref a_sets, .ref a_toldAt, .ref a_line])), (a_text, .inl (cI, 80, .inl ztext)), (a_owners, .inl (cI, 12, .inl zowners)), (a_ranks, .inl (cI, 12, .inl zranks)), (a_sets, .inl (cI, 12, .inl zsets)), (a_toldAt, .inl (cI, 100, .inl ztoldAt)), (a_line, .inl (cI, 100, .inl zline))] → va_S A s.heap H locs → W p l e (rmm 3 66) s m args below meth c H locs 0 0 Q (F0 m 28 ls []) := by
    intro t5 e9 ls H locs hl hP hD hS
    rw [e9] at h
    have h := sm_r h
    refine lv_aload_n hx hb dX4_readsPlace_28 rfl (lv_at hl 0 rfl) ?_
    refine va_get (D := D) (ci := 3) (v := .ref a_owners) (C := RX4) (T := TX4) (N := 21) hx hb hts inG4 hown hK hP 0 rfl rfl 16 (by decide) (hts _ wd2_168) (fun _ h9 => h9) rfl dX4_readsPlace_29 ?_
    refine lv_aload_n hx hb dX4_readsPlace_32 rfl (lv_at hl 0 rfl) ?_
    refine va_get (D := D) (ci := 3) (v := .int zplaces) (C := RX4) (T := TX4) (N := 21) hx hb hts inG4 hown hK hP 0 rfl rfl 15 (by decide) (hts _ wd2_167) (fun _ h9 => h9) rfl dX4_readsPlace_33 ?_
    refine lv_aload_n hx hb dX4_readsPlace_36 rfl (lv_at hl 0 rfl) ?_
    refine va_get (D := D) (ci := 3) (v := .ref a_text) (C := RX4) (T := TX4) (N := 21) hx hb hts inG4 hown hK hP 0 rfl rfl 5 (by decide) (hts _ wd2_157) (fun _ h9 => h9) rfl dX4_readsPlace_37 ?_
    refine lv_aload_n hx hb dX4_readsPlace_40 rfl (lv_at hl 0 rfl) ?_
    refine va_get (D := D) (ci := 3) (v := .int zspot) (C := RX4) (T := TX4) (N := 21) hx hb hts inG4 hown hK hP 0 rfl rfl 13 (by decide) (hts _ wd2_165) (fun _ h9 => h9) rfl dX4_readsPlace_41 ?_
    obtain ⟨g14, h⟩ := chk_s h
    refine va_iald hx hb hK hP 1 0 rfl rfl (gi_in g14) dX4_readsPlace_44 ?_
    refine lv_bipush (v := 111) hx hb dX4_readsPlace_45 (by decide) ?_
    obtain ⟨q16, hb51, h⟩ := bd h
    have J17 : ∀ (ls : Array Slot) (H : Heap) (locs : List Loc), lv_has ls 3 [(0, .ref a0)] → va_P D vwCl [(a0, .inr (3, [.ref a_s, .ref a_past, .ref a_kept, .int zisKept, .int zpasts, .ref a_text, .int ztyped, .ref a_measure, .int zmost1, .int zmost3, .int zmost5, .ref a_chosen, .ref a_ways, .int zspot, .int t5, .int zplaces, .ref a_owners, .ref a_ranks, .ref a_sets, .ref a_toldAt, .ref a_line])), (a_text, .inl (cI, 80, .inl ztext)), (a_owners, .inl (cI, 12, .inl zowners)), (a_ranks, .inl (cI, 12, .inl zranks)), (a_sets, .inl (cI, 12, .inl zsets)), (a_toldAt, .inl (cI, 100, .inl ztoldAt)), (a_line, .inl (cI, 100, .inl zline))] H → va_D A [(a0, .inr (3, [.ref a_s, .ref a_past, .ref a_kept, .int zisKept, .int zpasts, .ref a_text, .int ztyped, .ref a_measure, .int zmost1, .int zmost3, .int zmost5, .ref a_chosen, .ref a_ways, .int zspot, .int t5, .int zplaces, .ref a_owners, .ref a_ranks, .ref a_sets, .ref a_toldAt, .ref a_line])), (a_text, .inl (cI, 80, .inl ztext)), (a_owners, .inl (cI, 12, .inl zowners)), (a_ranks, .inl (cI, 12, .inl zranks)), (a_sets, .inl (cI, 12, .inl zsets)), (a_toldAt, .inl (cI, 100, .inl ztoldAt)), (a_line, .inl (cI, 100, .inl zline))] → va_S A s.heap H locs → W p l e (rmm 3 66) s m args below meth c H locs 0 0 Q (F0 m 55 ls [.int q16, .int zplaces, .ref a_owners]) := by
      intro ls H locs hl hP hD hS
      obtain ⟨g19, h⟩ := chk_s h
      refine va_iast hx hb hK hP hD hS 2 0 rfl rfl (gi_in g19) dX4_readsPlace_55 (fun H locs hP hD hS => ?_)
      have hP : va_P D vwCl [(a0, .inr (3, [.ref a_s, .ref a_past, .ref a_kept, .int zisKept, .int zpasts, .ref a_text, .int ztyped, .ref a_measure, .int zmost1, .int zmost3, .int zmost5, .ref a_chosen, .ref a_ways, .int zspot, .int t5, .int zplaces, .ref a_owners, .ref a_ranks, .ref a_sets, .ref a_toldAt, .ref a_line])), (a_text, .inl (cI, 80, .inl ztext)), (a_owners, .inl (cI, 12, .inl (upd zowners (Int32.toNatClampNeg zplaces) q16))), (a_ranks, .inl (cI, 12, .inl zranks)), (a_sets, .inl (cI, 12, .inl zsets)), (a_toldAt, .inl (cI, 100, .inl ztoldAt)), (a_line, .inl (cI, 100, .inl zline))] H := hP
      have hD : va_D A [(a0, .inr (3, [.ref a_s, .ref a_past, .ref a_kept, .int zisKept, .int zpasts, .ref a_text, .int ztyped, .ref a_measure, .int zmost1, .int zmost3, .int zmost5, .ref a_chosen, .ref a_ways, .int zspot, .int t5, .int zplaces, .ref a_owners, .ref a_ranks, .ref a_sets, .ref a_toldAt, .ref a_line])), (a_text, .inl (cI, 80, .inl ztext)), (a_owners, .inl (cI, 12, .inl (upd zowners (Int32.toNatClampNeg zplaces) q16))), (a_ranks, .inl (cI, 12, .inl zranks)), (a_sets, .inl (cI, 12, .inl zsets)), (a_toldAt, .inl (cI, 100, .inl ztoldAt)), (a_line, .inl (cI, 100, .inl zline))] := hD
      refine lv_aload_n hx hb dX4_readsPlace_56 rfl (lv_at hl 0 rfl) ?_
      refine lv_dup hx hb dX4_readsPlace_57 rfl ?_
      refine va_get (D := D) (ci := 3) (v := .int zspot) (C := RX4) (T := TX4) (N := 21) hx hb hts inG4 hown hK hP 0 rfl rfl 13 (by decide) (hts _ wd2_165) (fun _ h9 => h9) rfl dX4_readsPlace_58 ?_
      refine lv_iconst (v := 1) hx hb dX4_readsPlace_61 (by decide) ?_
      refine lv_iadd hx hb dX4_readsPlace_62 ?_
      refine va_put (D := D) (ci := 3) (v := .int (zspot + 1)) (ty := .int) (C := RX4) (T := TX4) (N := 21) hx hb hts inG4 tyX4 tyX4_ok nmX4 hown hK hP hD hS 0 rfl rfl 13 (by decide) (hts _ wd2_165) (fun _ h9 => h9) rfl (by decide +kernel) rfl rfl (Nat.le_of_ble_eq_true rfl) dX4_readsPlace_63 (fun H locs hP hD hS => ?_)
      have hP : va_P D vwCl [(a0, .inr (3, [.ref a_s, .ref a_past, .ref a_kept, .int zisKept, .int zpasts, .ref a_text, .int ztyped, .ref a_measure, .int zmost1, .int zmost3, .int zmost5, .ref a_chosen, .ref a_ways, .int (zspot + 1), .int t5, .int zplaces, .ref a_owners, .ref a_ranks, .ref a_sets, .ref a_toldAt, .ref a_line])), (a_text, .inl (cI, 80, .inl ztext)), (a_owners, .inl (cI, 12, .inl (upd zowners (Int32.toNatClampNeg zplaces) q16))), (a_ranks, .inl (cI, 12, .inl zranks)), (a_sets, .inl (cI, 12, .inl zsets)), (a_toldAt, .inl (cI, 100, .inl ztoldAt)), (a_line, .inl (cI, 100, .inl zline))] H := hP
      have hD : va_D A [(a0, .inr (3, [.ref a_s, .ref a_past, .ref a_kept, .int zisKept, .int zpasts, .ref a_text, .int ztyped, .ref a_measure, .int zmost1, .int zmost3, .int zmost5, .ref a_chosen, .ref a_ways, .int (zspot + 1), .int t5, .int zplaces, .ref a_owners, .ref a_ranks, .ref a_sets, .ref a_toldAt, .ref a_line])), (a_text, .inl (cI, 80, .inl ztext)), (a_owners, .inl (cI, 12, .inl (upd zowners (Int32.toNatClampNeg zplaces) q16))), (a_ranks, .inl (cI, 12, .inl zranks)), (a_sets, .inl (cI, 12, .inl zsets)), (a_toldAt, .inl (cI, 100, .inl ztoldAt)), (a_line, .inl (cI, 100, .inl zline))] := hD
      refine lv_aload_n hx hb dX4_readsPlace_66 rfl (lv_at hl 0 rfl) ?_
      refine lv_bipush (v := 48) hx hb dX4_readsPlace_67 (by decide) ?_
      refine lv_bipush (v := 57) hx hb dX4_readsPlace_69 (by decide) ?_
      obtain ⟨q20, hq21, h⟩ := bd h
      refine kvI (ws' := [(a0, .inr (3, [.ref a_s, .ref a_past, .ref a_kept, .int zisKept, .int zpasts, .ref a_text, .int ztyped, .ref a_measure, .int zmost1, .int zmost3, .int zmost5, .ref a_chosen, .ref a_ways, .int (zspot + 1), .int t5, .int zplaces, .ref a_owners, .ref a_ranks, .ref a_sets, .ref a_toldAt, .ref a_line])), (a_text, .inl (cI, 80, .inl ztext)), (a_owners, .inl (cI, 12, .inl (upd zowners (Int32.toNatClampNeg zplaces) q16))), (a_ranks, .inl (cI, 12, .inl zranks)), (a_sets, .inl (cI, 12, .inl zsets)), (a_toldAt, .inl (cI, 100, .inl ztoldAt)), (a_line, .inl (cI, 100, .inl zline))]) (wr := [(a_owners, .inl (cI, 12, .inl (upd zowners (Int32.toNatClampNeg zplaces) q16))), (a_ranks, .inl (cI, 12, .inl zranks)), (a_sets, .inl (cI, 12, .inl zsets)), (a_toldAt, .inl (cI, 100, .inl ztoldAt)), (a_line, .inl (cI, 100, .inl zline))]) (As := [.int 48, .int 57]) F (c_X4_isAt l D cI cC cH a0 a_s a_past a_kept a_text a_measure a_chosen a_ways a_owners a_ranks a_sets a_toldAt a_line N 48 57 zisKept zpasts ztext ztyped zmost1 zmost3 zmost5 (zspot + 1) t5 zplaces q20 hq21) yfX4_isAt ⟨wd3_156, wd3_158, wdp_39⟩ hP hD hS [0, 1] [2, 3, 4, 5, 6] [5, 6, 0, 1, 2, 3, 4] rfl rfl (by decide) (by decide) (by decide) rfl (by decide) 0 3 rfl rfl rfl ⟨Nat.le_of_ble_eq_true rfl, Nat.le_of_ble_eq_true rfl, Nat.zero_le _, Nat.zero_le _⟩ rfl hl rfl (Nat.le_of_ble_eq_true rfl) dX4_readsPlace_71 (fun H locs hP hD hS => ?_)
      refine lv_if_ne (tgt := 83) hx hb dX4_readsPlace_74 (by decide) (fun c22 => ?_) (fun c22 => ?_)
      · have h := itF h c22
        refine lv_aload_n hx hb dX4_readsPlace_83 rfl (lv_at hl 0 rfl) ?_
        refine va_get (D := D) (ci := 3) (v := .ref a_ranks) (C := RX4) (T := TX4) (N := 21) hx hb hts inG4 hown hK hP 0 rfl rfl 17 (by decide) (hts _ wd2_169) (fun _ h9 => h9) rfl dX4_readsPlace_84 ?_
        refine lv_aload_n hx hb dX4_readsPlace_87 rfl (lv_at hl 0 rfl) ?_
        refine va_get (D := D) (ci := 3) (v := .int zplaces) (C := RX4) (T := TX4) (N := 21) hx hb hts inG4 hown hK hP 0 rfl rfl 15 (by decide) (hts _ wd2_167) (fun _ h9 => h9) rfl dX4_readsPlace_88 ?_
        refine lv_aload_n hx hb dX4_readsPlace_91 rfl (lv_at hl 0 rfl) ?_
        refine va_get (D := D) (ci := 3) (v := .ref a_text) (C := RX4) (T := TX4) (N := 21) hx hb hts inG4 hown hK hP 0 rfl rfl 5 (by decide) (hts _ wd2_157) (fun _ h9 => h9) rfl dX4_readsPlace_92 ?_
        refine lv_aload_n hx hb dX4_readsPlace_95 rfl (lv_at hl 0 rfl) ?_
        refine va_get (D := D) (ci := 3) (v := .int (zspot + 1)) (C := RX4) (T := TX4) (N := 21) hx hb hts inG4 hown hK hP 0 rfl rfl 13 (by decide) (hts _ wd2_165) (fun _ h9 => h9) rfl dX4_readsPlace_96 ?_
        obtain ⟨g23, h⟩ := chk_s h
        refine va_iald hx hb hK hP 1 0 rfl rfl (gi_in g23) dX4_readsPlace_99 ?_
        refine lv_bipush (v := 48) hx hb dX4_readsPlace_100 (by decide) ?_
        refine lv_isub hx hb dX4_readsPlace_102 ?_
        obtain ⟨g24, h⟩ := chk_s h
        refine va_iast hx hb hK hP hD hS 3 0 rfl rfl (gi_in g24) dX4_readsPlace_103 (fun H locs hP hD hS => ?_)
        have hP : va_P D vwCl [(a0, .inr (3, [.ref a_s, .ref a_past, .ref a_kept, .int zisKept, .int zpasts, .ref a_text, .int ztyped, .ref a_measure, .int zmost1, .int zmost3, .int zmost5, .ref a_chosen, .ref a_ways, .int (zspot + 1), .int t5, .int zplaces, .ref a_owners, .ref a_ranks, .ref a_sets, .ref a_toldAt, .ref a_line])), (a_text, .inl (cI, 80, .inl ztext)), (a_owners, .inl (cI, 12, .inl (upd zowners (Int32.toNatClampNeg zplaces) q16))), (a_ranks, .inl (cI, 12, .inl (upd zranks (Int32.toNatClampNeg zplaces) ((ztext (Int32.toNatClampNeg (zspot + 1))) - 48)))), (a_sets, .inl (cI, 12, .inl zsets)), (a_toldAt, .inl (cI, 100, .inl ztoldAt)), (a_line, .inl (cI, 100, .inl zline))] H := hP
        have hD : va_D A [(a0, .inr (3, [.ref a_s, .ref a_past, .ref a_kept, .int zisKept, .int zpasts, .ref a_text, .int ztyped, .ref a_measure, .int zmost1, .int zmost3, .int zmost5, .ref a_chosen, .ref a_ways, .int (zspot + 1), .int t5, .int zplaces, .ref a_owners, .ref a_ranks, .ref a_sets, .ref a_toldAt, .ref a_line])), (a_text, .inl (cI, 80, .inl ztext)), (a_owners, .inl (cI, 12, .inl (upd zowners (Int32.toNatClampNeg zplaces) q16))), (a_ranks, .inl (cI, 12, .inl (upd zranks (Int32.toNatClampNeg zplaces) ((ztext (Int32.toNatClampNeg (zspot + 1))) - 48)))), (a_sets, .inl (cI, 12, .inl zsets)), (a_toldAt, .inl (cI, 100, .inl ztoldAt)), (a_line, .inl (cI, 100, .inl zline))] := hD
        refine lv_aload_n hx hb dX4_readsPlace_104 rfl (lv_at hl 0 rfl) ?_
        refine va_get (D := D) (ci := 3) (v := .ref a_ranks) (C := RX4) (T := TX4) (N := 21) hx hb hts inG4 hown hK hP 0 rfl rfl 17 (by decide) (hts _ wd2_169) (fun _ h9 => h9) rfl dX4_readsPlace_105 ?_
        refine lv_aload_n hx hb dX4_readsPlace_108 rfl (lv_at hl 0 rfl) ?_
        refine va_get (D := D) (ci := 3) (v := .int zplaces) (C := RX4) (T := TX4) (N := 21) hx hb hts inG4 hown hK hP 0 rfl rfl 15 (by decide) (hts _ wd2_167) (fun _ h9 => h9) rfl dX4_readsPlace_109 ?_
        obtain ⟨g25, h⟩ := chk_s h
        refine va_iald hx hb hK hP 3 0 rfl rfl (gi_in g25) dX4_readsPlace_112 ?_
        refine lv_bipush (v := 6) hx hb dX4_readsPlace_113 (by decide) ?_
        refine lv_icmp_lt (tgt := 124) hx hb dX4_readsPlace_115 (by decide) (fun c26 => ?_) (fun c26 => ?_)
        · have h := itT h c26
          refine lv_aload_n hx hb dX4_readsPlace_124 rfl (lv_at hl 0 rfl) ?_
          refine lv_dup hx hb dX4_readsPlace_125 rfl ?_
          refine va_get (D := D) (ci := 3) (v := .int (zspot + 1)) (C := RX4) (T := TX4) (N := 21) hx hb hts inG4 hown hK hP 0 rfl rfl 13 (by decide) (hts _ wd2_165) (fun _ h9 => h9) rfl dX4_readsPlace_126 ?_
          refine lv_iconst (v := 1) hx hb dX4_readsPlace_129 (by decide) ?_
          refine lv_iadd hx hb dX4_readsPlace_130 ?_
          refine va_put (D := D) (ci := 3) (v := .int ((zspot + 1) + 1)) (ty := .int) (C := RX4) (T := TX4) (N := 21) hx hb hts inG4 tyX4 tyX4_ok nmX4 hown hK hP hD hS 0 rfl rfl 13 (by decide) (hts _ wd2_165) (fun _ h9 => h9) rfl (by decide +kernel) rfl rfl (Nat.le_of_ble_eq_true rfl) dX4_readsPlace_131 (fun H locs hP hD hS => ?_)
          have hP : va_P D vwCl [(a0, .inr (3, [.ref a_s, .ref a_past, .ref a_kept, .int zisKept, .int zpasts, .ref a_text, .int ztyped, .ref a_measure, .int zmost1, .int zmost3, .int zmost5, .ref a_chosen, .ref a_ways, .int ((zspot + 1) + 1), .int t5, .int zplaces, .ref a_owners, .ref a_ranks, .ref a_sets, .ref a_toldAt, .ref a_line])), (a_text, .inl (cI, 80, .inl ztext)), (a_owners, .inl (cI, 12, .inl (upd zowners (Int32.toNatClampNeg zplaces) q16))), (a_ranks, .inl (cI, 12, .inl (upd zranks (Int32.toNatClampNeg zplaces) ((ztext (Int32.toNatClampNeg (zspot + 1))) - 48)))), (a_sets, .inl (cI, 12, .inl zsets)), (a_toldAt, .inl (cI, 100, .inl ztoldAt)), (a_line, .inl (cI, 100, .inl zline))] H := hP
          have hD : va_D A [(a0, .inr (3, [.ref a_s, .ref a_past, .ref a_kept, .int zisKept, .int zpasts, .ref a_text, .int ztyped, .ref a_measure, .int zmost1, .int zmost3, .int zmost5, .ref a_chosen, .ref a_ways, .int ((zspot + 1) + 1), .int t5, .int zplaces, .ref a_owners, .ref a_ranks, .ref a_sets, .ref a_toldAt, .ref a_line])), (a_text, .inl (cI, 80, .inl ztext)), (a_owners, .inl (cI, 12, .inl (upd zowners (Int32.toNatClampNeg zplaces) q16))), (a_ranks, .inl (cI, 12, .inl (upd zranks (Int32.toNatClampNeg zplaces) ((ztext (Int32.toNatClampNeg (zspot + 1))) - 48)))), (a_sets, .inl (cI, 12, .inl zsets)), (a_toldAt, .inl (cI, 100, .inl ztoldAt)), (a_line, .inl (cI, 100, .inl zline))] := hD
          refine lv_aload_n hx hb dX4_readsPlace_134 rfl (lv_at hl 0 rfl) ?_
          refine va_get (D := D) (ci := 3) (v := .ref a_sets) (C := RX4) (T := TX4) (N := 21) hx hb hts inG4 hown hK hP 0 rfl rfl 18 (by decide) (hts _ wd2_170) (fun _ h9 => h9) rfl dX4_readsPlace_135 ?_
          refine lv_aload_n hx hb dX4_readsPlace_138 rfl (lv_at hl 0 rfl) ?_
          refine va_get (D := D) (ci := 3) (v := .int zplaces) (C := RX4) (T := TX4) (N := 21) hx hb hts inG4 hown hK hP 0 rfl rfl 15 (by decide) (hts _ wd2_167) (fun _ h9 => h9) rfl dX4_readsPlace_139 ?_
          refine lv_iconst (v := 0) hx hb dX4_readsPlace_142 (by decide) ?_
          obtain ⟨g27, h⟩ := chk_s h
          refine va_iast hx hb hK hP hD hS 4 0 rfl rfl (gi_in g27) dX4_readsPlace_143 (fun H locs hP hD hS => ?_)
          have hP : va_P D vwCl [(a0, .inr (3, [.ref a_s, .ref a_past, .ref a_kept, .int zisKept, .int zpasts, .ref a_text, .int ztyped, .ref a_measure, .int zmost1, .int zmost3, .int zmost5, .ref a_chosen, .ref a_ways, .int ((zspot + 1) + 1), .int t5, .int zplaces, .ref a_owners, .ref a_ranks, .ref a_sets, .ref a_toldAt, .ref a_line])), (a_text, .inl (cI, 80, .inl ztext)), (a_owners, .inl (cI, 12, .inl (upd zowners (Int32.toNatClampNeg zplaces) q16))), (a_ranks, .inl (cI, 12, .inl (upd zranks (Int32.toNatClampNeg zplaces) ((ztext (Int32.toNatClampNeg (zspot + 1))) - 48)))), (a_sets, .inl (cI, 12, .inl (upd zsets (Int32.toNatClampNeg zplaces) 0))), (a_toldAt, .inl (cI, 100, .inl ztoldAt)), (a_line, .inl (cI, 100, .inl zline))] H := hP
          have hD : va_D A [(a0, .inr (3, [.ref a_s, .ref a_past, .ref a_kept, .int zisKept, .int zpasts, .ref a_text, .int ztyped, .ref a_measure, .int zmost1, .int zmost3, .int zmost5, .ref a_chosen, .ref a_ways, .int ((zspot + 1) + 1), .int t5, .int zplaces, .ref a_owners, .ref a_ranks, .ref a_sets, .ref a_toldAt, .ref a_line])), (a_text, .inl (cI, 80, .inl ztext)), (a_owners, .inl (cI, 12, .inl (upd zowners (Int32.toNatClampNeg zplaces) q16))), (a_ranks, .inl (cI, 12, .inl (upd zranks (Int32.toNatClampNeg zplaces) ((ztext (Int32.toNatClampNeg (zspot + 1))) - 48)))), (a_sets, .inl (cI, 12, .inl (upd zsets (Int32.toNatClampNeg zplaces) 0))), (a_toldAt, .inl (cI, 100, .inl ztoldAt)), (a_line, .inl (cI, 100, .inl zline))] := hD
          refine lv_iconst (v := 1) hx hb dX4_readsPlace_144 (by decide) ?_
          refine lv_istore_n (lv' := [(1, .int 1), (0, .ref a0)]) hx hb dX4_readsPlace_145 rfl hl (by decide) rfl (fun ls hl => ?_)
          refine lv_aload_n hx hb dX4_readsPlace_146 rfl (lv_at hl 1 rfl) ?_
          refine lv_bipush (v := 58) hx hb dX4_readsPlace_147 (by decide) ?_
          refine lv_bipush (v := 58) hx hb dX4_readsPlace_149 (by decide) ?_
          obtain ⟨q28, hq29, h⟩ := bd h
          refine kvI (ws' := [(a0, .inr (3, [.ref a_s, .ref a_past, .ref a_kept, .int zisKept, .int zpasts, .ref a_text, .int ztyped, .ref a_measure, .int zmost1, .int zmost3, .int zmost5, .ref a_chosen, .ref a_ways, .int ((zspot + 1) + 1), .int t5, .int zplaces, .ref a_owners, .ref a_ranks, .ref a_sets, .ref a_toldAt, .ref a_line])), (a_text, .inl (cI, 80, .inl ztext)), (a_owners, .inl (cI, 12, .inl (upd zowners (Int32.toNatClampNeg zplaces) q16))), (a_ranks, .inl (cI, 12, .inl (upd zranks (Int32.toNatClampNeg zplaces) ((ztext (Int32.toNatClampNeg (zspot + 1))) - 48)))), (a_sets, .inl (cI, 12, .inl (upd zsets (Int32.toNatClampNeg zplaces) 0))), (a_toldAt, .inl (cI, 100, .inl ztoldAt)), (a_line, .inl (cI, 100, .inl zline))]) (wr := [(a_owners, .inl (cI, 12, .inl (upd zowners (Int32.toNatClampNeg zplaces) q16))), (a_ranks, .inl (cI, 12, .inl (upd zranks (Int32.toNatClampNeg zplaces) ((ztext (Int32.toNatClampNeg (zspot + 1))) - 48)))), (a_sets, .inl (cI, 12, .inl (upd zsets (Int32.toNatClampNeg zplaces) 0))), (a_toldAt, .inl (cI, 100, .inl ztoldAt)), (a_line, .inl (cI, 100, .inl zline))]) (As := [.int 58, .int 58]) F (c_X4_isAt l D cI cC cH a0 a_s a_past a_kept a_text a_measure a_chosen a_ways a_owners a_ranks a_sets a_toldAt a_line N 58 58 zisKept zpasts ztext ztyped zmost1 zmost3 zmost5 ((zspot + 1) + 1) t5 zplaces q28 hq29) yfX4_isAt ⟨wd3_156, wd3_158, wdp_39⟩ hP hD hS [0, 1] [2, 3, 4, 5, 6] [5, 6, 0, 1, 2, 3, 4] rfl rfl (by decide) (by decide) (by decide) rfl (by decide) 0 3 rfl rfl rfl ⟨Nat.le_of_ble_eq_true rfl, Nat.le_of_ble_eq_true rfl, Nat.zero_le _, Nat.zero_le _⟩ rfl hl rfl (Nat.le_of_ble_eq_true rfl) dX4_readsPlace_151 (fun H locs hP hD hS => ?_)
          refine lv_istore_n (lv' := [(2, .int q28), (1, .int 1), (0, .ref a0)]) hx hb dX4_readsPlace_154 rfl hl (by decide) rfl (fun ls hl => ?_)
          have L_155 : ∀ (zisKept_155 : Int32) (zpasts_155 : Int32) (ztext_155 : Nat → Int32) (ztyped_155 : Int32) (zmost1_155 : Int32) (zmost3_155 : Int32) (zmost5_155 : Int32) (zplaces_155 : Int32) (zowners_155 : Nat → Int32) (zranks_155 : Nat → Int32), ∀ (n_155 : Nat) (x1_155 : Int32) (x2_155 : Int32) (zspot_155 : Int32) (zreason_155 : Int32) (zsets_155 : Nat → Int32) (ztoldAt_155 : Nat → Int32) (zline_155 : Nat → Int32) (q36 : (Int32 × Int32 × Int32 × (Nat → Int32) × (Nat → Int32) × (Nat → Int32))), f_X4_readsPlace_L155 N ztext_155 ztyped_155 zplaces_155 n_155 x1_155 x2_155 zspot_155 zreason_155 zsets_155 ztoldAt_155 zline_155 = some q36 → (∀ (ls : Array Slot) (H : Heap) (locs : List Loc), lv_has ls 3 [(0, .ref a0), (1, .int q36.1)] → va_P D vwCl [(a0, .inr (3, [.ref a_s, .ref a_past, .ref a_kept, .int zisKept_155, .int zpasts_155, .ref a_text, .int ztyped_155, .ref a_measure, .int zmost1_155, .int zmost3_155, .int zmost5_155, .ref a_chosen, .ref a_ways, .int q36.2.1, .int q36.2.2.1, .int zplaces_155, .ref a_owners, .ref a_ranks, .ref a_sets, .ref a_toldAt, .ref a_line])), (a_text, .inl (cI, 80, .inl ztext_155)), (a_owners, .inl (cI, 12, .inl zowners_155)), (a_ranks, .inl (cI, 12, .inl zranks_155)), (a_sets, .inl (cI, 12, .inl q36.2.2.2.1)), (a_toldAt, .inl (cI, 100, .inl q36.2.2.2.2.1)), (a_line, .inl (cI, 100, .inl q36.2.2.2.2.2))] H → va_D A [(a0, .inr (3, [.ref a_s, .ref a_past, .ref a_kept, .int zisKept_155, .int zpasts_155, .ref a_text, .int ztyped_155, .ref a_measure, .int zmost1_155, .int zmost3_155, .int zmost5_155, .ref a_chosen, .ref a_ways, .int q36.2.1, .int q36.2.2.1, .int zplaces_155, .ref a_owners, .ref a_ranks, .ref a_sets, .ref a_toldAt, .ref a_line])), (a_text, .inl (cI, 80, .inl ztext_155)), (a_owners, .inl (cI, 12, .inl zowners_155)), (a_ranks, .inl (cI, 12, .inl zranks_155)), (a_sets, .inl (cI, 12, .inl q36.2.2.2.1)), (a_toldAt, .inl (cI, 100, .inl q36.2.2.2.2.1)), (a_line, .inl (cI, 100, .inl q36.2.2.2.2.2))] → va_S A s.heap H locs → W p l e (rmm 3 66) s m args below meth c H locs 0 0 Q (F0 m 190 ls [])) → ∀ (ls : Array Slot) (H : Heap) (locs : List Loc), lv_has ls 3 [(0, .ref a0), (1, .int x1_155), (2, .int x2_155)] → va_P D vwCl [(a0, .inr (3, [.ref a_s, .ref a_past, .ref a_kept, .int zisKept_155, .int zpasts_155, .ref a_text, .int ztyped_155, .ref a_measure, .int zmost1_155, .int zmost3_155, .int zmost5_155, .ref a_chosen, .ref a_ways, .int zspot_155, .int zreason_155, .int zplaces_155, .ref a_owners, .ref a_ranks, .ref a_sets, .ref a_toldAt, .ref a_line])), (a_text, .inl (cI, 80, .inl ztext_155)), (a_owners, .inl (cI, 12, .inl zowners_155)), (a_ranks, .inl (cI, 12, .inl zranks_155)), (a_sets, .inl (cI, 12, .inl zsets_155)), (a_toldAt, .inl (cI, 100, .inl ztoldAt_155)), (a_line, .inl (cI, 100, .inl zline_155))] H → va_D A [(a0, .inr (3, [.ref a_s, .ref a_past, .ref a_kept, .int zisKept_155, .int zpasts_155, .ref a_text, .int ztyped_155, .ref a_measure, .int zmost1_155, .int zmost3_155, .int zmost5_155, .ref a_chosen, .ref a_ways, .int zspot_155, .int zreason_155, .int zplaces_155, .ref a_owners, .ref a_ranks, .ref a_sets, .ref a_toldAt, .ref a_line])), (a_text, .inl (cI, 80, .inl ztext_155)), (a_owners, .inl (cI, 12, .inl zowners_155)), (a_ranks, .inl (cI, 12, .inl zranks_155)), (a_sets, .inl (cI, 12, .inl zsets_155)), (a_toldAt, .inl (cI, 100, .inl ztoldAt_155)), (a_line, .inl (cI, 100, .inl zline_155))] → va_S A s.heap H locs → W p l e (rmm 3 66) s m args below meth c H locs 0 0 Q (F0 m 155 ls []) := by
            intro zisKept_155 zpasts_155 ztext_155 ztyped_155 zmost1_155 zmost3_155 zmost5_155 zplaces_155 zowners_155 zranks_155 n_155
            induction n_155 with
            | zero => intro x1_155 x2_155 zspot_155 zreason_155 zsets_155 ztoldAt_155 zline_155 q36 h; exact no_s h
            | succ n_155 ih_155 =>
              intro x1_155 x2_155 zspot_155 zreason_155 zsets_155 ztoldAt_155 zline_155 q36 h J_155 ls H locs hl hP hD hS
              rw [f_X4_readsPlace_L155] at h
              refine lv_iload_n hx hb dX4_readsPlace_155 rfl (lv_at hl 2 rfl) ?_
              refine lv_if_eq (tgt := 190) hx hb dX4_readsPlace_156 (by decide) (fun c30 => ?_) (fun c30 => ?_)
              · have h := itT h c30
                obtain rfl := Option.some.inj h
                exact J_155 _ _ _ (lv_sub hl [0, 1] rfl) hP hD hS
              · have h := itF h c30
                refine lv_iload_n hx hb dX4_readsPlace_159 rfl (lv_at hl 1 rfl) ?_
                refine lv_if_eq (tgt := 190) hx hb dX4_readsPlace_160 (by decide) (fun c31 => ?_) (fun c31 => ?_)
                · have h := itT h c31
                  obtain rfl := Option.some.inj h
                  exact J_155 _ _ _ (lv_sub hl [0, 1] rfl) hP hD hS
                · have h := itF h c31
                  refine lv_aload_n hx hb dX4_readsPlace_163 rfl (lv_at hl 0 rfl) ?_
                  refine lv_dup hx hb dX4_readsPlace_164 rfl ?_
                  refine va_get (D := D) (ci := 3) (v := .int zspot_155) (C := RX4) (T := TX4) (N := 21) hx hb hts inG4 hown hK hP 0 rfl rfl 13 (by decide) (hts _ wd2_165) (fun _ h9 => h9) rfl dX4_readsPlace_165 ?_
                  refine lv_iconst (v := 1) hx hb dX4_readsPlace_168 (by decide) ?_
                  refine lv_iadd hx hb dX4_readsPlace_169 ?_
                  refine va_put (D := D) (ci := 3) (v := .int (zspot_155 + 1)) (ty := .int) (C := RX4) (T := TX4) (N := 21) hx hb hts inG4 tyX4 tyX4_ok nmX4 hown hK hP hD hS 0 rfl rfl 13 (by decide) (hts _ wd2_165) (fun _ h9 => h9) rfl (by decide +kernel) rfl rfl (Nat.le_of_ble_eq_true rfl) dX4_readsPlace_170 (fun H locs hP hD hS => ?_)
                  have hP : va_P D vwCl [(a0, .inr (3, [.ref a_s, .ref a_past, .ref a_kept, .int zisKept_155, .int zpasts_155, .ref a_text, .int ztyped_155, .ref a_measure, .int zmost1_155, .int zmost3_155, .int zmost5_155, .ref a_chosen, .ref a_ways, .int (zspot_155 + 1), .int zreason_155, .int zplaces_155, .ref a_owners, .ref a_ranks, .ref a_sets, .ref a_toldAt, .ref a_line])), (a_text, .inl (cI, 80, .inl ztext_155)), (a_owners, .inl (cI, 12, .inl zowners_155)), (a_ranks, .inl (cI, 12, .inl zranks_155)), (a_sets, .inl (cI, 12, .inl zsets_155)), (a_toldAt, .inl (cI, 100, .inl ztoldAt_155)), (a_line, .inl (cI, 100, .inl zline_155))] H := hP
                  have hD : va_D A [(a0, .inr (3, [.ref a_s, .ref a_past, .ref a_kept, .int zisKept_155, .int zpasts_155, .ref a_text, .int ztyped_155, .ref a_measure, .int zmost1_155, .int zmost3_155, .int zmost5_155, .ref a_chosen, .ref a_ways, .int (zspot_155 + 1), .int zreason_155, .int zplaces_155, .ref a_owners, .ref a_ranks, .ref a_sets, .ref a_toldAt, .ref a_line])), (a_text, .inl (cI, 80, .inl ztext_155)), (a_owners, .inl (cI, 12, .inl zowners_155)), (a_ranks, .inl (cI, 12, .inl zranks_155)), (a_sets, .inl (cI, 12, .inl zsets_155)), (a_toldAt, .inl (cI, 100, .inl ztoldAt_155)), (a_line, .inl (cI, 100, .inl zline_155))] := hD
                  refine lv_aload_n hx hb dX4_readsPlace_173 rfl (lv_at hl 0 rfl) ?_
                  obtain ⟨q32, hq33, h⟩ := bd h
                  refine kvI (ws' := [(a0, .inr (3, [.ref a_s, .ref a_past, .ref a_kept, .int zisKept_155, .int zpasts_155, .ref a_text, .int ztyped_155, .ref a_measure, .int zmost1_155, .int zmost3_155, .int zmost5_155, .ref a_chosen, .ref a_ways, .int q32.2.1, .int q32.2.2.1, .int zplaces_155, .ref a_owners, .ref a_ranks, .ref a_sets, .ref a_toldAt, .ref a_line])), (a_text, .inl (cI, 80, .inl ztext_155)), (a_owners, .inl (cI, 12, .inl zowners_155)), (a_ranks, .inl (cI, 12, .inl zranks_155)), (a_sets, .inl (cI, 12, .inl q32.2.2.2.1)), (a_toldAt, .inl (cI, 100, .inl q32.2.2.2.2.1)), (a_line, .inl (cI, 100, .inl q32.2.2.2.2.2))]) (wr := [(a_owners, .inl (cI, 12, .inl zowners_155)), (a_ranks, .inl (cI, 12, .inl zranks_155))]) (As := []) F (c_X4_readsWay l D cI cC cH a0 a_s a_past a_kept a_text a_measure a_chosen a_ways a_owners a_ranks a_sets a_toldAt a_line N zisKept_155 zpasts_155 ztext_155 ztyped_155 zmost1_155 zmost3_155 zmost5_155 (zspot_155 + 1) zreason_155 zplaces_155 zsets_155 ztoldAt_155 zline_155 q32 hq33) yfX4_readsWay ⟨wd3_164, wd3_166, wdp_41⟩ hP hD hS [0, 1, 4, 5, 6] [2, 3] [2, 3, 0, 1, 4, 5, 6] rfl rfl (by decide) (by decide) (by decide) rfl (by decide) 0 3 rfl rfl rfl ⟨Nat.le_of_ble_eq_true rfl, Nat.le_of_ble_eq_true rfl, Nat.zero_le _, Nat.zero_le _⟩ rfl hl rfl (Nat.le_of_ble_eq_true rfl) dX4_readsPlace_174 (fun H locs hP hD hS => ?_)
                  refine lv_istore_n (lv' := [(1, .int q32.1), (0, .ref a0), (2, .int x2_155)]) hx hb dX4_readsPlace_177 rfl hl (by decide) rfl (fun ls hl => ?_)
                  refine lv_aload_n hx hb dX4_readsPlace_178 rfl (lv_at hl 1 rfl) ?_
                  refine lv_bipush (v := 44) hx hb dX4_readsPlace_179 (by decide) ?_
                  refine lv_bipush (v := 44) hx hb dX4_readsPlace_181 (by decide) ?_
                  obtain ⟨q34, hq35, h⟩ := bd h
                  refine kvI (ws' := [(a0, .inr (3, [.ref a_s, .ref a_past, .ref a_kept, .int zisKept_155, .int zpasts_155, .ref a_text, .int ztyped_155, .ref a_measure, .int zmost1_155, .int zmost3_155, .int zmost5_155, .ref a_chosen, .ref a_ways, .int q32.2.1, .int q32.2.2.1, .int zplaces_155, .ref a_owners, .ref a_ranks, .ref a_sets, .ref a_toldAt, .ref a_line])), (a_text, .inl (cI, 80, .inl ztext_155)), (a_owners, .inl (cI, 12, .inl zowners_155)), (a_ranks, .inl (cI, 12, .inl zranks_155)), (a_sets, .inl (cI, 12, .inl q32.2.2.2.1)), (a_toldAt, .inl (cI, 100, .inl q32.2.2.2.2.1)), (a_line, .inl (cI, 100, .inl q32.2.2.2.2.2))]) (wr := [(a_owners, .inl (cI, 12, .inl zowners_155)), (a_ranks, .inl (cI, 12, .inl zranks_155)), (a_sets, .inl (cI, 12, .inl q32.2.2.2.1)), (a_toldAt, .inl (cI, 100, .inl q32.2.2.2.2.1)), (a_line, .inl (cI, 100, .inl q32.2.2.2.2.2))]) (As := [.int 44, .int 44]) F (c_X4_isAt l D cI cC cH a0 a_s a_past a_kept a_text a_measure a_chosen a_ways a_owners a_ranks a_sets a_toldAt a_line N 44 44 zisKept_155 zpasts_155 ztext_155 ztyped_155 zmost1_155 zmost3_155 zmost5_155 q32.2.1 q32.2.2.1 zplaces_155 q34 hq35) yfX4_isAt ⟨wd3_156, wd3_158, wdp_39⟩ hP hD hS [0, 1] [2, 3, 4, 5, 6] [5, 6, 0, 1, 2, 3, 4] rfl rfl (by decide) (by decide) (by decide) rfl (by decide) 0 3 rfl rfl rfl ⟨Nat.le_of_ble_eq_true rfl, Nat.le_of_ble_eq_true rfl, Nat.zero_le _, Nat.zero_le _⟩ rfl hl rfl (Nat.le_of_ble_eq_true rfl) dX4_readsPlace_183 (fun H locs hP hD hS => ?_)
                  refine lv_istore_n (lv' := [(2, .int q34), (1, .int q32.1), (0, .ref a0)]) hx hb dX4_readsPlace_186 rfl hl (by decide) rfl (fun ls hl => ?_)
                  refine lv_goto (tgt := 155) hx hb dX4_readsPlace_187 (by decide) ?_
                  exact ih_155 q32.1 q34 q32.2.1 q32.2.2.1 q32.2.2.2.1 q32.2.2.2.2.1 q32.2.2.2.2.2 _ h J_155 _ _ _ (lv_sub hl [2, 1, 0] rfl) hP hD hS
          obtain ⟨q37, hb44, h⟩ := bd h
          refine L_155 zisKept zpasts ztext ztyped zmost1 zmost3 zmost5 zplaces (upd zowners (Int32.toNatClampNeg zplaces) q16) (upd zranks (Int32.toNatClampNeg zplaces) ((ztext (Int32.toNatClampNeg (zspot + 1))) - 48)) N 1 q28 ((zspot + 1) + 1) t5 (upd zsets (Int32.toNatClampNeg zplaces) 0) ztoldAt zline q37 hb44 ?_ _ _ _ (lv_sub hl [2, 1, 0] rfl) hP hD hS
          intro ls H locs hl hP hD hS
          refine lv_aload_n hx hb dX4_readsPlace_190 rfl (lv_at hl 0 rfl) ?_
          refine lv_dup hx hb dX4_readsPlace_191 rfl ?_
          refine va_get (D := D) (ci := 3) (v := .int zplaces) (C := RX4) (T := TX4) (N := 21) hx hb hts inG4 hown hK hP 0 rfl rfl 15 (by decide) (hts _ wd2_167) (fun _ h9 => h9) rfl dX4_readsPlace_192 ?_
          refine lv_iload_n hx hb dX4_readsPlace_195 rfl (lv_at hl 1 rfl) ?_
          obtain ⟨q39, hb43, h⟩ := bd h
          have J40 : ∀ (ls : Array Slot) (H : Heap) (locs : List Loc), lv_has ls 3 [(1, .int q37.1)] → va_P D vwCl [(a0, .inr (3, [.ref a_s, .ref a_past, .ref a_kept, .int zisKept, .int zpasts, .ref a_text, .int ztyped, .ref a_measure, .int zmost1, .int zmost3, .int zmost5, .ref a_chosen, .ref a_ways, .int q37.2.1, .int q37.2.2.1, .int zplaces, .ref a_owners, .ref a_ranks, .ref a_sets, .ref a_toldAt, .ref a_line])), (a_text, .inl (cI, 80, .inl ztext)), (a_owners, .inl (cI, 12, .inl (upd zowners (Int32.toNatClampNeg zplaces) q16))), (a_ranks, .inl (cI, 12, .inl (upd zranks (Int32.toNatClampNeg zplaces) ((ztext (Int32.toNatClampNeg (zspot + 1))) - 48)))), (a_sets, .inl (cI, 12, .inl q37.2.2.2.1)), (a_toldAt, .inl (cI, 100, .inl q37.2.2.2.2.1)), (a_line, .inl (cI, 100, .inl q37.2.2.2.2.2))] H → va_D A [(a0, .inr (3, [.ref a_s, .ref a_past, .ref a_kept, .int zisKept, .int zpasts, .ref a_text, .int ztyped, .ref a_measure, .int zmost1, .int zmost3, .int zmost5, .ref a_chosen, .ref a_ways, .int q37.2.1, .int q37.2.2.1, .int zplaces, .ref a_owners, .ref a_ranks, .ref a_sets, .ref a_toldAt, .ref a_line])), (a_text, .inl (cI, 80, .inl ztext)), (a_owners, .inl (cI, 12, .inl (upd zowners (Int32.toNatClampNeg zplaces) q16))), (a_ranks, .inl (cI, 12, .inl (upd zranks (Int32.toNatClampNeg zplaces) ((ztext (Int32.toNatClampNeg (zspot + 1))) - 48)))), (a_sets, .inl (cI, 12, .inl q37.2.2.2.1)), (a_toldAt, .inl (cI, 100, .inl q37.2.2.2.2.1)), (a_line, .inl (cI, 100, .inl q37.2.2.2.2.2))] → va_S A s.heap H locs → W p l e (rmm 3 66) s m args below meth c H locs 0 0 Q (F0 m 204 ls [.int q39, .int zplaces, .ref a0]) := by
            intro ls H locs hl hP hD hS
            refine lv_iadd hx hb dX4_readsPlace_204 ?_
            refine va_put (D := D) (ci := 3) (v := .int (zplaces + q39)) (ty := .int) (C := RX4) (T := TX4) (N := 21) hx hb hts inG4 tyX4 tyX4_ok nmX4 hown hK hP hD hS 0 rfl rfl 15 (by decide) (hts _ wd2_167) (fun _ h9 => h9) rfl (by decide +kernel) rfl rfl (Nat.le_of_ble_eq_true rfl) dX4_readsPlace_205 (fun H locs hP hD hS => ?_)
            have hP : va_P D vwCl [(a0, .inr (3, [.ref a_s, .ref a_past, .ref a_kept, .int zisKept, .int zpasts, .ref a_text, .int ztyped, .ref a_measure, .int zmost1, .int zmost3, .int zmost5, .ref a_chosen, .ref a_ways, .int q37.2.1, .int q37.2.2.1, .int (zplaces + q39), .ref a_owners, .ref a_ranks, .ref a_sets, .ref a_toldAt, .ref a_line])), (a_text, .inl (cI, 80, .inl ztext)), (a_owners, .inl (cI, 12, .inl (upd zowners (Int32.toNatClampNeg zplaces) q16))), (a_ranks, .inl (cI, 12, .inl (upd zranks (Int32.toNatClampNeg zplaces) ((ztext (Int32.toNatClampNeg (zspot + 1))) - 48)))), (a_sets, .inl (cI, 12, .inl q37.2.2.2.1)), (a_toldAt, .inl (cI, 100, .inl q37.2.2.2.2.1)), (a_line, .inl (cI, 100, .inl q37.2.2.2.2.2))] H := hP
            have hD : va_D A [(a0, .inr (3, [.ref a_s, .ref a_past, .ref a_kept, .int zisKept, .int zpasts, .ref a_text, .int ztyped, .ref a_measure, .int zmost1, .int zmost3, .int zmost5, .ref a_chosen, .ref a_ways, .int q37.2.1, .int q37.2.2.1, .int (zplaces + q39), .ref a_owners, .ref a_ranks, .ref a_sets, .ref a_toldAt, .ref a_line])), (a_text, .inl (cI, 80, .inl ztext)), (a_owners, .inl (cI, 12, .inl (upd zowners (Int32.toNatClampNeg zplaces) q16))), (a_ranks, .inl (cI, 12, .inl (upd zranks (Int32.toNatClampNeg zplaces) ((ztext (Int32.toNatClampNeg (zspot + 1))) - 48)))), (a_sets, .inl (cI, 12, .inl q37.2.2.2.1)), (a_toldAt, .inl (cI, 100, .inl q37.2.2.2.2.1)), (a_line, .inl (cI, 100, .inl q37.2.2.2.2.2))] := hD
            refine lv_iload_n hx hb dX4_readsPlace_208 rfl (lv_at hl 0 rfl) ?_
            obtain ⟨g42, h⟩ := chk_s h
            obtain rfl := Option.some.inj h
            exact hret _ _ _ _ _ (isZ_n g42) rfl hP hD hS dX4_readsPlace_209
          clear h
          have h := hb43
          clear hb43
          refine lv_if_eq (tgt := 203) hx hb dX4_readsPlace_196 (by decide) (fun c38 => ?_) (fun c38 => ?_)
          · have h := itT h c38
            refine lv_iconst (v := 0) hx hb dX4_readsPlace_203 (by decide) ?_
            obtain rfl := Option.some.inj h
            exact J40 _ _ _ (lv_sub hl [1] rfl) hP hD hS
          · have h := itF h c38
            refine lv_iconst (v := 1) hx hb dX4_readsPlace_199 (by decide) ?_
            refine lv_goto (tgt := 204) hx hb dX4_readsPlace_200 (by decide) ?_
            obtain rfl := Option.some.inj h
            exact J40 _ _ _ (lv_sub hl [1] rfl) hP hD hS
        · have h := itF h c26
          refine lv_aload_n hx hb dX4_readsPlace_118 rfl (lv_at hl 0 rfl) ?_
          refine lv_iconst (v := 2) hx hb dX4_readsPlace_119 (by decide) ?_
          obtain ⟨q45, hq46, h⟩ := bd h
          refine kvI (ws' := [(a0, .inr (3, [.ref a_s, .ref a_past, .ref a_kept, .int zisKept, .int zpasts, .ref a_text, .int ztyped, .ref a_measure, .int zmost1, .int zmost3, .int zmost5, .ref a_chosen, .ref a_ways, .int (zspot + 1), .int q45.2, .int zplaces, .ref a_owners, .ref a_ranks, .ref a_sets, .ref a_toldAt, .ref a_line])), (a_text, .inl (cI, 80, .inl ztext)), (a_owners, .inl (cI, 12, .inl (upd zowners (Int32.toNatClampNeg zplaces) q16))), (a_ranks, .inl (cI, 12, .inl (upd zranks (Int32.toNatClampNeg zplaces) ((ztext (Int32.toNatClampNeg (zspot + 1))) - 48)))), (a_sets, .inl (cI, 12, .inl zsets)), (a_toldAt, .inl (cI, 100, .inl ztoldAt)), (a_line, .inl (cI, 100, .inl zline))]) (wr := [(a_text, .inl (cI, 80, .inl ztext)), (a_owners, .inl (cI, 12, .inl (upd zowners (Int32.toNatClampNeg zplaces) q16))), (a_ranks, .inl (cI, 12, .inl (upd zranks (Int32.toNatClampNeg zplaces) ((ztext (Int32.toNatClampNeg (zspot + 1))) - 48)))), (a_sets, .inl (cI, 12, .inl zsets)), (a_toldAt, .inl (cI, 100, .inl ztoldAt)), (a_line, .inl (cI, 100, .inl zline))]) (As := [.int 2]) F (c_X4_fails l D cI cC cH a0 a_s a_past a_kept a_text a_measure a_chosen a_ways a_owners a_ranks a_sets a_toldAt a_line N 2 zisKept zpasts ztyped zmost1 zmost3 zmost5 (zspot + 1) t5 zplaces q45 hq46) yfX4_fails ⟨wd3_160, wd3_162, wdp_40⟩ hP hD hS [0] [1, 2, 3, 4, 5, 6] [6, 0, 1, 2, 3, 4, 5] rfl rfl (by decide) (by decide) (by decide) rfl (by decide) 0 3 rfl rfl rfl ⟨Nat.le_of_ble_eq_true rfl, Nat.le_of_ble_eq_true rfl, Nat.zero_le _, Nat.zero_le _⟩ rfl hl rfl (Nat.le_of_ble_eq_true rfl) dX4_readsPlace_120 (fun H locs hP hD hS => ?_)
          obtain ⟨g47, h⟩ := chk_s h
          obtain rfl := Option.some.inj h
          exact hret _ _ _ _ _ (isZ_n g47) rfl hP hD hS dX4_readsPlace_123
      · have h := itT h c22
        refine lv_aload_n hx hb dX4_readsPlace_77 rfl (lv_at hl 0 rfl) ?_
        refine lv_iconst (v := 1) hx hb dX4_readsPlace_78 (by decide) ?_
        obtain ⟨q48, hq49, h⟩ := bd h
        refine kvI (ws' := [(a0, .inr (3, [.ref a_s, .ref a_past, .ref a_kept, .int zisKept, .int zpasts, .ref a_text, .int ztyped, .ref a_measure, .int zmost1, .int zmost3, .int zmost5, .ref a_chosen, .ref a_ways, .int (zspot + 1), .int q48.2, .int zplaces, .ref a_owners, .ref a_ranks, .ref a_sets, .ref a_toldAt, .ref a_line])), (a_text, .inl (cI, 80, .inl ztext)), (a_owners, .inl (cI, 12, .inl (upd zowners (Int32.toNatClampNeg zplaces) q16))), (a_ranks, .inl (cI, 12, .inl zranks)), (a_sets, .inl (cI, 12, .inl zsets)), (a_toldAt, .inl (cI, 100, .inl ztoldAt)), (a_line, .inl (cI, 100, .inl zline))]) (wr := [(a_text, .inl (cI, 80, .inl ztext)), (a_owners, .inl (cI, 12, .inl (upd zowners (Int32.toNatClampNeg zplaces) q16))), (a_ranks, .inl (cI, 12, .inl zranks)), (a_sets, .inl (cI, 12, .inl zsets)), (a_toldAt, .inl (cI, 100, .inl ztoldAt)), (a_line, .inl (cI, 100, .inl zline))]) (As := [.int 1]) F (c_X4_fails l D cI cC cH a0 a_s a_past a_kept a_text a_measure a_chosen a_ways a_owners a_ranks a_sets a_toldAt a_line N 1 zisKept zpasts ztyped zmost1 zmost3 zmost5 (zspot + 1) t5 zplaces q48 hq49) yfX4_fails ⟨wd3_160, wd3_162, wdp_40⟩ hP hD hS [0] [1, 2, 3, 4, 5, 6] [6, 0, 1, 2, 3, 4, 5] rfl rfl (by decide) (by decide) (by decide) rfl (by decide) 0 3 rfl rfl rfl ⟨Nat.le_of_ble_eq_true rfl, Nat.le_of_ble_eq_true rfl, Nat.zero_le _, Nat.zero_le _⟩ rfl hl rfl (Nat.le_of_ble_eq_true rfl) dX4_readsPlace_79 (fun H locs hP hD hS => ?_)
        obtain ⟨g50, h⟩ := chk_s h
        obtain rfl := Option.some.inj h
        exact hret _ _ _ _ _ (isZ_n g50) rfl hP hD hS dX4_readsPlace_82
    clear h
    have h := hb51
    clear hb51
    refine lv_icmp_ne (tgt := 54) hx hb dX4_readsPlace_47 (by decide) (fun c15 => ?_) (fun c15 => ?_)
    · have h := itF h c15
      refine lv_iconst (v := 0) hx hb dX4_readsPlace_54 (by decide) ?_
      obtain rfl := Option.some.inj h
      exact J17 _ _ _ (lv_sub hl [0] rfl) hP hD hS
    · have h := itT h c15
      refine lv_iconst (v := 1) hx hb dX4_readsPlace_50 (by decide) ?_
      refine lv_goto (tgt := 55) hx hb dX4_readsPlace_51 (by decide) ?_
      obtain rfl := Option.some.inj h
      exact J17 _ _ _ (lv_sub hl [0] rfl) hP hD hS
  have hr7 : ∀ r9, q4 = .inl r9 → r9 = y := by
    intro r9 e9
    rw [e9] at h
    exact Option.some.inj h
  clear h
  have h := hb52
  clear hb52
  refine lv_if_ne (tgt := 28) hx hb dX4_readsPlace_8 (by decide) (fun c3 => ?_) (fun c3 => ?_)
  · have h := itF h c3
    obtain rfl := Option.some.inj h
    exact J6 _ rfl _ _ _ (lv_sub hl [0] rfl) hP hD hS
  · have h := itT h c3
    refine lv_aload_n hx hb dX4_readsPlace_11 rfl (lv_at hl 0 rfl) ?_
    refine lv_bipush (v := 111) hx hb dX4_readsPlace_12 (by decide) ?_
    refine lv_bipush (v := 111) hx hb dX4_readsPlace_14 (by decide) ?_
    obtain ⟨q8, hq9, h⟩ := bd h
    refine kvI (ws' := [(a0, .inr (3, [.ref a_s, .ref a_past, .ref a_kept, .int zisKept, .int zpasts, .ref a_text, .int ztyped, .ref a_measure, .int zmost1, .int zmost3, .int zmost5, .ref a_chosen, .ref a_ways, .int zspot, .int zreason, .int zplaces, .ref a_owners, .ref a_ranks, .ref a_sets, .ref a_toldAt, .ref a_line])), (a_text, .inl (cI, 80, .inl ztext)), (a_owners, .inl (cI, 12, .inl zowners)), (a_ranks, .inl (cI, 12, .inl zranks)), (a_sets, .inl (cI, 12, .inl zsets)), (a_toldAt, .inl (cI, 100, .inl ztoldAt)), (a_line, .inl (cI, 100, .inl zline))]) (wr := [(a_owners, .inl (cI, 12, .inl zowners)), (a_ranks, .inl (cI, 12, .inl zranks)), (a_sets, .inl (cI, 12, .inl zsets)), (a_toldAt, .inl (cI, 100, .inl ztoldAt)), (a_line, .inl (cI, 100, .inl zline))]) (As := [.int 111, .int 111]) F (c_X4_isAt l D cI cC cH a0 a_s a_past a_kept a_text a_measure a_chosen a_ways a_owners a_ranks a_sets a_toldAt a_line N 111 111 zisKept zpasts ztext ztyped zmost1 zmost3 zmost5 zspot zreason zplaces q8 hq9) yfX4_isAt ⟨wd3_156, wd3_158, wdp_39⟩ hP hD hS [0, 1] [2, 3, 4, 5, 6] [5, 6, 0, 1, 2, 3, 4] rfl rfl (by decide) (by decide) (by decide) rfl (by decide) 0 3 rfl rfl rfl ⟨Nat.le_of_ble_eq_true rfl, Nat.le_of_ble_eq_true rfl, Nat.zero_le _, Nat.zero_le _⟩ rfl hl rfl (Nat.le_of_ble_eq_true rfl) dX4_readsPlace_16 (fun H locs hP hD hS => ?_)
    refine lv_if_ne (tgt := 28) hx hb dX4_readsPlace_19 (by decide) (fun c10 => ?_) (fun c10 => ?_)
    · have h := itF h c10
      obtain rfl := Option.some.inj h
      exact J6 _ rfl _ _ _ (lv_sub hl [0] rfl) hP hD hS
    · have h := itT h c10
      refine lv_aload_n hx hb dX4_readsPlace_22 rfl (lv_at hl 0 rfl) ?_
      refine lv_iconst (v := 1) hx hb dX4_readsPlace_23 (by decide) ?_
      obtain ⟨q11, hq12, h⟩ := bd h
      refine kvI (ws' := [(a0, .inr (3, [.ref a_s, .ref a_past, .ref a_kept, .int zisKept, .int zpasts, .ref a_text, .int ztyped, .ref a_measure, .int zmost1, .int zmost3, .int zmost5, .ref a_chosen, .ref a_ways, .int zspot, .int q11.2, .int zplaces, .ref a_owners, .ref a_ranks, .ref a_sets, .ref a_toldAt, .ref a_line])), (a_text, .inl (cI, 80, .inl ztext)), (a_owners, .inl (cI, 12, .inl zowners)), (a_ranks, .inl (cI, 12, .inl zranks)), (a_sets, .inl (cI, 12, .inl zsets)), (a_toldAt, .inl (cI, 100, .inl ztoldAt)), (a_line, .inl (cI, 100, .inl zline))]) (wr := [(a_text, .inl (cI, 80, .inl ztext)), (a_owners, .inl (cI, 12, .inl zowners)), (a_ranks, .inl (cI, 12, .inl zranks)), (a_sets, .inl (cI, 12, .inl zsets)), (a_toldAt, .inl (cI, 100, .inl ztoldAt)), (a_line, .inl (cI, 100, .inl zline))]) (As := [.int 1]) F (c_X4_fails l D cI cC cH a0 a_s a_past a_kept a_text a_measure a_chosen a_ways a_owners a_ranks a_sets a_toldAt a_line N 1 zisKept zpasts ztyped zmost1 zmost3 zmost5 zspot zreason zplaces q11 hq12) yfX4_fails ⟨wd3_160, wd3_162, wdp_40⟩ hP hD hS [0] [1, 2, 3, 4, 5, 6] [6, 0, 1, 2, 3, 4, 5] rfl rfl (by decide) (by decide) (by decide) rfl (by decide) 0 3 rfl rfl rfl ⟨Nat.le_of_ble_eq_true rfl, Nat.le_of_ble_eq_true rfl, Nat.zero_le _, Nat.zero_le _⟩ rfl hl rfl (Nat.le_of_ble_eq_true rfl) dX4_readsPlace_24 (fun H locs hP hD hS => ?_)
      obtain ⟨g13, h⟩ := chk_s h
      obtain rfl := Option.some.inj h
      obtain rfl := hr7 _ rfl
      exact hret _ _ _ _ _ (isZ_n g13) rfl hP hD hS dX4_readsPlace_27
def f_X4_areThere_L8 (N : Nat) (ztoldAt_8 : Nat → Int32) : Nat → Int32 → Int32 → Option (Int32)
  | 0, _, _ => none
  | n_8 + 1, x1_8, x2_8 =>
    if 100 ≤ x2_8 then (some x1_8) else (chk (gi x2_8 100) (Option.bind (α := Int32) (if (ztoldAt_8 (Int32.toNatClampNeg x2_8)) < 0 then (some (x1_8)) else (chk (gi x2_8 100) (if x1_8 ≤ (ztoldAt_8 (Int32.toNatClampNeg x2_8)) then (some (x1_8)) else (chk (gi x2_8 100) (some (ztoldAt_8 (Int32.toNatClampNeg x2_8))))))) (fun q4 => f_X4_areThere_L8 N ztoldAt_8 n_8 q4 (x2_8 + 1))))
def f_X4_areThere (N : Nat) (zspot : Int32) (zreason : Int32) (zplaces : Int32) (ztoldAt : Nat → Int32) : Option (Int32 × Int32 × Int32) :=
    Option.bind (f_X4_areThere_L8 N ztoldAt N 80 zplaces) (fun q12 => Option.bind (α := (Int32 × Int32 × Int32) ⊕ (Int32)) (if q12 = 80 then (some (.inr (zreason))) else (Option.bind (f_X4_fails N 5 zreason) (fun q18 => if q18.1 = 0 then (some (.inl (0, q12, q18.2))) else (some (.inr (q18.2)))))) (fun q14 => sm q14 some (fun t15 => some (1, q12, t15))))
set_option maxHeartbeats 4000000 in
set_option maxRecDepth 100000 in
theorem c_X4_areThere (l : Launch) (D : va_G) (cI cC cH : ClassId) (a0 : Nat) (a_s : Nat) (a_past : Nat) (a_kept : Nat) (a_text : Nat) (a_measure : Nat) (a_chosen : Nat) (a_ways : Nat) (a_owners : Nat) (a_ranks : Nat) (a_sets : Nat) (a_toldAt : Nat) (a_line : Nat) (N : Nat) (zisKept : Int32) (zpasts : Int32) (ztyped : Int32) (zmost1 : Int32) (zmost3 : Int32) (zmost5 : Int32) (zspot : Int32) (zreason : Int32) (zplaces : Int32) (ztoldAt : Nat → Int32) (y : Int32 × Int32 × Int32) (h : f_X4_areThere N zspot zreason zplaces ztoldAt = some y) : CTi l yX4_areThere cX4_areThere 3 (some .boolean) 1 21 D (tyL cI cC cH) [.ref a0] [(a0, .inr (3, [.ref a_s, .ref a_past, .ref a_kept, .int zisKept, .int zpasts, .ref a_text, .int ztyped, .ref a_measure, .int zmost1, .int zmost3, .int zmost5, .ref a_chosen, .ref a_ways, .int zspot, .int zreason, .int zplaces, .ref a_owners, .ref a_ranks, .ref a_sets, .ref a_toldAt, .ref a_line])), (a_toldAt, .inl (cI, 100, .inl ztoldAt))] [(a0, .inr (3, [.ref a_s, .ref a_past, .ref a_kept, .int zisKept, .int zpasts, .ref a_text, .int ztyped, .ref a_measure, .int zmost1, .int zmost3, .int zmost5, .ref a_chosen, .ref a_ways, .int y.2.1, .int y.2.2, .int zplaces, .ref a_owners, .ref a_ranks, .ref a_sets, .ref a_toldAt, .ref a_line])), (a_toldAt, .inl (cI, 100, .inl ztoldAt))] y.1 := by
  unfold f_X4_areThere at h
  refine ctZ (by decide) (Nat.le_of_ble_eq_true rfl) ?_
  intro p e s m args below meth c A Q ls F hret hP hD hS hl
  have hx := F.1
  have hb := F.2.1
  have hown : s.vm.findClass RX4 = some m.cls := F.2.2.2.1
  have hts := F.2.2.2.2.1
  have hN := F.2.2.2.2.2.1
  have hK := F.2.2.2.2.2.2.1
  have hl : lv_has ls 3 [(0, .ref a0)] := hl
  refine lv_bipush (v := 80) hx hb dX4_areThere_0 (by decide) ?_
  refine lv_istore_n (lv' := [(1, .int 80), (0, .ref a0)]) hx hb dX4_areThere_2 rfl hl (by decide) rfl (fun ls hl => ?_)
  refine lv_aload_n hx hb dX4_areThere_3 rfl (lv_at hl 1 rfl) ?_
  refine va_get (D := D) (ci := 3) (v := .int zplaces) (C := RX4) (T := TX4) (N := 21) hx hb hts inG4 hown hK hP 0 rfl rfl 15 (by decide) (hts _ wd2_167) (fun _ h9 => h9) rfl dX4_areThere_4 ?_
  refine lv_istore_n (lv' := [(2, .int zplaces), (1, .int 80), (0, .ref a0)]) hx hb dX4_areThere_7 rfl hl (by decide) rfl (fun ls hl => ?_)
  have L_8 : ∀ (zisKept_8 : Int32) (zpasts_8 : Int32) (ztyped_8 : Int32) (zmost1_8 : Int32) (zmost3_8 : Int32) (zmost5_8 : Int32) (zspot_8 : Int32) (zreason_8 : Int32) (zplaces_8 : Int32) (ztoldAt_8 : Nat → Int32), ∀ (n_8 : Nat) (x1_8 : Int32) (x2_8 : Int32) (q11 : (Int32)), f_X4_areThere_L8 N ztoldAt_8 n_8 x1_8 x2_8 = some q11 → (∀ (ls : Array Slot) (H : Heap) (locs : List Loc), lv_has ls 3 [(0, .ref a0), (1, .int q11)] → va_P D vwCl [(a0, .inr (3, [.ref a_s, .ref a_past, .ref a_kept, .int zisKept_8, .int zpasts_8, .ref a_text, .int ztyped_8, .ref a_measure, .int zmost1_8, .int zmost3_8, .int zmost5_8, .ref a_chosen, .ref a_ways, .int zspot_8, .int zreason_8, .int zplaces_8, .ref a_owners, .ref a_ranks, .ref a_sets, .ref a_toldAt, .ref a_line])), (a_toldAt, .inl (cI, 100, .inl ztoldAt_8))] H → va_D A [(a0, .inr (3, [.ref a_s, .ref a_past, .ref a_kept, .int zisKept_8, .int zpasts_8, .ref a_text, .int ztyped_8, .ref a_measure, .int zmost1_8, .int zmost3_8, .int zmost5_8, .ref a_chosen, .ref a_ways, .int zspot_8, .int zreason_8, .int zplaces_8, .ref a_owners, .ref a_ranks, .ref a_sets, .ref a_toldAt, .ref a_line])), (a_toldAt, .inl (cI, 100, .inl ztoldAt_8))] → va_S A s.heap H locs → W p l e (rmm 1 21) s m args below meth c H locs 0 0 Q (F0 m 50 ls [])) → ∀ (ls : Array Slot) (H : Heap) (locs : List Loc), lv_has ls 3 [(0, .ref a0), (1, .int x1_8), (2, .int x2_8)] → va_P D vwCl [(a0, .inr (3, [.ref a_s, .ref a_past, .ref a_kept, .int zisKept_8, .int zpasts_8, .ref a_text, .int ztyped_8, .ref a_measure, .int zmost1_8, .int zmost3_8, .int zmost5_8, .ref a_chosen, .ref a_ways, .int zspot_8, .int zreason_8, .int zplaces_8, .ref a_owners, .ref a_ranks, .ref a_sets, .ref a_toldAt, .ref a_line])), (a_toldAt, .inl (cI, 100, .inl ztoldAt_8))] H → va_D A [(a0, .inr (3, [.ref a_s, .ref a_past, .ref a_kept, .int zisKept_8, .int zpasts_8, .ref a_text, .int ztyped_8, .ref a_measure, .int zmost1_8, .int zmost3_8, .int zmost5_8, .ref a_chosen, .ref a_ways, .int zspot_8, .int zreason_8, .int zplaces_8, .ref a_owners, .ref a_ranks, .ref a_sets, .ref a_toldAt, .ref a_line])), (a_toldAt, .inl (cI, 100, .inl ztoldAt_8))] → va_S A s.heap H locs → W p l e (rmm 1 21) s m args below meth c H locs 0 0 Q (F0 m 8 ls []) := by
    intro zisKept_8 zpasts_8 ztyped_8 zmost1_8 zmost3_8 zmost5_8 zspot_8 zreason_8 zplaces_8 ztoldAt_8 n_8
    induction n_8 with
    | zero => intro x1_8 x2_8 q11 h; exact no_s h
    | succ n_8 ih_8 =>
      intro x1_8 x2_8 q11 h J_8 ls H locs hl hP hD hS
      rw [f_X4_areThere_L8] at h
      refine lv_iload_n hx hb dX4_areThere_8 rfl (lv_at hl 2 rfl) ?_
      refine lv_bipush (v := 100) hx hb dX4_areThere_9 (by decide) ?_
      refine lv_icmp_ge (tgt := 50) hx hb dX4_areThere_11 (by decide) (fun c1 => ?_) (fun c1 => ?_)
      · have h := itT h c1
        obtain rfl := Option.some.inj h
        exact J_8 _ _ _ (lv_sub hl [0, 1] rfl) hP hD hS
      · have h := itF h c1
        refine lv_aload_n hx hb dX4_areThere_14 rfl (lv_at hl 0 rfl) ?_
        refine va_get (D := D) (ci := 3) (v := .ref a_toldAt) (C := RX4) (T := TX4) (N := 21) hx hb hts inG4 hown hK hP 0 rfl rfl 19 (by decide) (hts _ wd2_171) (fun _ h9 => h9) rfl dX4_areThere_15 ?_
        refine lv_iload_n hx hb dX4_areThere_18 rfl (lv_at hl 2 rfl) ?_
        obtain ⟨g2, h⟩ := chk_s h
        refine va_iald hx hb hK hP 1 0 rfl rfl (gi_in g2) dX4_areThere_19 ?_
        obtain ⟨q4, hb10, h⟩ := bd h
        have J5 : ∀ (ls : Array Slot) (H : Heap) (locs : List Loc), lv_has ls 3 [(0, .ref a0), (2, .int x2_8)] → va_P D vwCl [(a0, .inr (3, [.ref a_s, .ref a_past, .ref a_kept, .int zisKept_8, .int zpasts_8, .ref a_text, .int ztyped_8, .ref a_measure, .int zmost1_8, .int zmost3_8, .int zmost5_8, .ref a_chosen, .ref a_ways, .int zspot_8, .int zreason_8, .int zplaces_8, .ref a_owners, .ref a_ranks, .ref a_sets, .ref a_toldAt, .ref a_line])), (a_toldAt, .inl (cI, 100, .inl ztoldAt_8))] H → va_D A [(a0, .inr (3, [.ref a_s, .ref a_past, .ref a_kept, .int zisKept_8, .int zpasts_8, .ref a_text, .int ztyped_8, .ref a_measure, .int zmost1_8, .int zmost3_8, .int zmost5_8, .ref a_chosen, .ref a_ways, .int zspot_8, .int zreason_8, .int zplaces_8, .ref a_owners, .ref a_ranks, .ref a_sets, .ref a_toldAt, .ref a_line])), (a_toldAt, .inl (cI, 100, .inl ztoldAt_8))] → va_S A s.heap H locs → W p l e (rmm 1 21) s m args below meth c H locs 0 0 Q (F0 m 43 ls [.int q4]) := by
          intro ls H locs hl hP hD hS
          refine lv_istore_n (lv' := [(1, .int q4), (0, .ref a0), (2, .int x2_8)]) hx hb dX4_areThere_43 rfl hl (by decide) rfl (fun ls hl => ?_)
          refine lv_iinc (v := x2_8 + 1) (lv' := [(2, .int (x2_8 + 1)), (1, .int q4), (0, .ref a0)]) hx hb dX4_areThere_44 hl (k := 2) rfl rfl (by decide) rfl (fun ls hl => ?_)
          refine lv_goto (tgt := 8) hx hb dX4_areThere_47 (by decide) ?_
          exact ih_8 q4 (x2_8 + 1) _ h J_8 _ _ _ (lv_sub hl [2, 1, 0] rfl) hP hD hS
        clear h
        have h := hb10
        clear hb10
        refine lv_if_lt (tgt := 42) hx hb dX4_areThere_20 (by decide) (fun c3 => ?_) (fun c3 => ?_)
        · have h := itT h c3
          refine lv_iload_n hx hb dX4_areThere_42 rfl (lv_at hl 1 rfl) ?_
          obtain rfl := Option.some.inj h
          exact J5 _ _ _ (lv_sub hl [0, 2] rfl) hP hD hS
        · have h := itF h c3
          refine lv_aload_n hx hb dX4_areThere_23 rfl (lv_at hl 0 rfl) ?_
          refine va_get (D := D) (ci := 3) (v := .ref a_toldAt) (C := RX4) (T := TX4) (N := 21) hx hb hts inG4 hown hK hP 0 rfl rfl 19 (by decide) (hts _ wd2_171) (fun _ h9 => h9) rfl dX4_areThere_24 ?_
          refine lv_iload_n hx hb dX4_areThere_27 rfl (lv_at hl 2 rfl) ?_
          obtain ⟨g7, h⟩ := chk_s h
          refine va_iald hx hb hK hP 1 0 rfl rfl (gi_in g7) dX4_areThere_28 ?_
          refine lv_iload_n hx hb dX4_areThere_29 rfl (lv_at hl 1 rfl) ?_
          refine lv_icmp_ge (tgt := 42) hx hb dX4_areThere_30 (by decide) (fun c8 => ?_) (fun c8 => ?_)
          · have h := itT h c8
            refine lv_iload_n hx hb dX4_areThere_42 rfl (lv_at hl 1 rfl) ?_
            obtain rfl := Option.some.inj h
            exact J5 _ _ _ (lv_sub hl [0, 2] rfl) hP hD hS
          · have h := itF h c8
            refine lv_aload_n hx hb dX4_areThere_33 rfl (lv_at hl 0 rfl) ?_
            refine va_get (D := D) (ci := 3) (v := .ref a_toldAt) (C := RX4) (T := TX4) (N := 21) hx hb hts inG4 hown hK hP 0 rfl rfl 19 (by decide) (hts _ wd2_171) (fun _ h9 => h9) rfl dX4_areThere_34 ?_
            refine lv_iload_n hx hb dX4_areThere_37 rfl (lv_at hl 2 rfl) ?_
            obtain ⟨g9, h⟩ := chk_s h
            refine va_iald hx hb hK hP 1 0 rfl rfl (gi_in g9) dX4_areThere_38 ?_
            refine lv_goto (tgt := 43) hx hb dX4_areThere_39 (by decide) ?_
            obtain rfl := Option.some.inj h
            exact J5 _ _ _ (lv_sub hl [0, 2] rfl) hP hD hS
  obtain ⟨q12, hb22, h⟩ := bd h
  refine L_8 zisKept zpasts ztyped zmost1 zmost3 zmost5 zspot zreason zplaces ztoldAt N 80 zplaces q12 hb22 ?_ _ _ _ (lv_sub hl [2, 1, 0] rfl) hP hD hS
  intro ls H locs hl hP hD hS
  refine lv_aload_n hx hb dX4_areThere_50 rfl (lv_at hl 0 rfl) ?_
  refine lv_iload_n hx hb dX4_areThere_51 rfl (lv_at hl 1 rfl) ?_
  refine va_put (D := D) (ci := 3) (v := .int q12) (ty := .int) (C := RX4) (T := TX4) (N := 21) hx hb hts inG4 tyX4 tyX4_ok nmX4 hown hK hP hD hS 0 rfl rfl 13 (by decide) (hts _ wd2_165) (fun _ h9 => h9) rfl (by decide +kernel) rfl rfl (Nat.le_of_ble_eq_true rfl) dX4_areThere_52 (fun H locs hP hD hS => ?_)
  have hP : va_P D vwCl [(a0, .inr (3, [.ref a_s, .ref a_past, .ref a_kept, .int zisKept, .int zpasts, .ref a_text, .int ztyped, .ref a_measure, .int zmost1, .int zmost3, .int zmost5, .ref a_chosen, .ref a_ways, .int q12, .int zreason, .int zplaces, .ref a_owners, .ref a_ranks, .ref a_sets, .ref a_toldAt, .ref a_line])), (a_toldAt, .inl (cI, 100, .inl ztoldAt))] H := hP
  have hD : va_D A [(a0, .inr (3, [.ref a_s, .ref a_past, .ref a_kept, .int zisKept, .int zpasts, .ref a_text, .int ztyped, .ref a_measure, .int zmost1, .int zmost3, .int zmost5, .ref a_chosen, .ref a_ways, .int q12, .int zreason, .int zplaces, .ref a_owners, .ref a_ranks, .ref a_sets, .ref a_toldAt, .ref a_line])), (a_toldAt, .inl (cI, 100, .inl ztoldAt))] := hD
  refine lv_iload_n hx hb dX4_areThere_55 rfl (lv_at hl 1 rfl) ?_
  refine lv_bipush (v := 80) hx hb dX4_areThere_56 (by decide) ?_
  obtain ⟨q14, hb21, h⟩ := bd h
  have J16 : ∀ t15, q14 = .inr t15 → ∀ (ls : Array Slot) (H : Heap) (locs : List Loc), lv_has ls 3 [] → va_P D vwCl [(a0, .inr (3, [.ref a_s, .ref a_past, .ref a_kept, .int zisKept, .int zpasts, .ref a_text, .int ztyped, .ref a_measure, .int zmost1, .int zmost3, .int zmost5, .ref a_chosen, .ref a_ways, .int q12, .int t15, .int zplaces, .ref a_owners, .ref a_ranks, .ref a_sets, .ref a_toldAt, .ref a_line])), (a_toldAt, .inl (cI, 100, .inl ztoldAt))] H → va_D A [(a0, .inr (3, [.ref a_s, .ref a_past, .ref a_kept, .int zisKept, .int zpasts, .ref a_text, .int ztyped, .ref a_measure, .int zmost1, .int zmost3, .int zmost5, .ref a_chosen, .ref a_ways, .int q12, .int t15, .int zplaces, .ref a_owners, .ref a_ranks, .ref a_sets, .ref a_toldAt, .ref a_line])), (a_toldAt, .inl (cI, 100, .inl ztoldAt))] → va_S A s.heap H locs → W p l e (rmm 1 21) s m args below meth c H locs 0 0 Q (F0 m 69 ls []) := by
    intro t15 e9 ls H locs hl hP hD hS
    rw [e9] at h
    have h := sm_r h
    refine lv_iconst (v := 1) hx hb dX4_areThere_69 (by decide) ?_
    refine lv_goto (tgt := 74) hx hb dX4_areThere_70 (by decide) ?_
    obtain rfl := Option.some.inj h
    exact hret _ _ _ _ _ rfl rfl hP hD hS dX4_areThere_74
  have hr17 : ∀ r9, q14 = .inl r9 → r9 = y := by
    intro r9 e9
    rw [e9] at h
    exact Option.some.inj h
  clear h
  have h := hb21
  clear hb21
  refine lv_icmp_eq (tgt := 69) hx hb dX4_areThere_58 (by decide) (fun c13 => ?_) (fun c13 => ?_)
  · have h := itT h c13
    obtain rfl := Option.some.inj h
    exact J16 _ rfl _ _ _ (lv_sub hl [] rfl) hP hD hS
  · have h := itF h c13
    refine lv_aload_n hx hb dX4_areThere_61 rfl (lv_at hl 0 rfl) ?_
    refine lv_iconst (v := 5) hx hb dX4_areThere_62 (by decide) ?_
    obtain ⟨q18, hq19, h⟩ := bd h
    refine kvI (ws' := [(a0, .inr (3, [.ref a_s, .ref a_past, .ref a_kept, .int zisKept, .int zpasts, .ref a_text, .int ztyped, .ref a_measure, .int zmost1, .int zmost3, .int zmost5, .ref a_chosen, .ref a_ways, .int q12, .int q18.2, .int zplaces, .ref a_owners, .ref a_ranks, .ref a_sets, .ref a_toldAt, .ref a_line])), (a_toldAt, .inl (cI, 100, .inl ztoldAt))]) (wr := [(a_toldAt, .inl (cI, 100, .inl ztoldAt))]) (As := [.int 5]) F (c_X4_fails l D cI cC cH a0 a_s a_past a_kept a_text a_measure a_chosen a_ways a_owners a_ranks a_sets a_toldAt a_line N 5 zisKept zpasts ztyped zmost1 zmost3 zmost5 q12 zreason zplaces q18 hq19) yfX4_fails ⟨wd3_160, wd3_162, wdp_40⟩ hP hD hS [0] [1] [1, 0] rfl rfl (by decide) (by decide) (by decide) rfl (by decide) 0 3 rfl rfl rfl ⟨Nat.le_of_ble_eq_true rfl, Nat.le_of_ble_eq_true rfl, Nat.zero_le _, Nat.zero_le _⟩ rfl hl rfl (Nat.le_of_ble_eq_true rfl) dX4_areThere_63 (fun H locs hP hD hS => ?_)
    refine lv_if_eq (tgt := 73) hx hb dX4_areThere_66 (by decide) (fun c20 => ?_) (fun c20 => ?_)
    · have h := itT h c20
      refine lv_iconst (v := 0) hx hb dX4_areThere_73 (by decide) ?_
      obtain rfl := Option.some.inj h
      obtain rfl := hr17 _ rfl
      exact hret _ _ _ _ _ rfl rfl hP hD hS dX4_areThere_74
    · have h := itF h c20
      obtain rfl := Option.some.inj h
      exact J16 _ rfl _ _ _ (lv_sub hl [] rfl) hP hD hS
def f_X4_isRight_L12 (N : Nat) : Nat → Int32 → (Nat → Int32) → (Nat → Int32) → Option ((Nat → Int32) × (Nat → Int32))
  | 0, _, _, _ => none
  | n_12 + 1, x1_12, ztoldAt_12, zline_12 =>
    if 100 ≤ x1_12 then (some (ztoldAt_12, zline_12)) else (chk (gi x1_12 100) (chk (gi x1_12 100) (f_X4_isRight_L12 N n_12 (x1_12 + 1) (upd ztoldAt_12 (Int32.toNatClampNeg x1_12) (-1)) (upd zline_12 (Int32.toNatClampNeg x1_12) 0))))
def f_X4_isRight_L43 (N : Nat) (ztext_43 : Nat → Int32) (ztyped_43 : Int32) : Nat → Int32 → Int32 → Int32 → Int32 → (Nat → Int32) → (Nat → Int32) → (Nat → Int32) → (Nat → Int32) → (Nat → Int32) → Option ((Int32 × Int32 × Int32 × Int32 × (Nat → Int32) × (Nat → Int32) × (Nat → Int32) × (Nat → Int32) × (Nat → Int32)) ⊕ (Int32 × Int32 × Int32 × Int32 × (Nat → Int32) × (Nat → Int32) × (Nat → Int32) × (Nat → Int32) × (Nat → Int32)))
  | 0, _, _, _, _, _, _, _, _, _ => none
  | n_43 + 1, x1_43, zspot_43, zreason_43, zplaces_43, zowners_43, zranks_43, zsets_43, ztoldAt_43, zline_43 =>
    if x1_43 = 0 then (some (.inr (x1_43, zspot_43, zreason_43, zplaces_43, zowners_43, zranks_43, zsets_43, ztoldAt_43, zline_43))) else (if ztyped_43 ≤ zspot_43 then (some (.inr (x1_43, zspot_43, zreason_43, zplaces_43, zowners_43, zranks_43, zsets_43, ztoldAt_43, zline_43))) else (Option.bind (f_X4_isAt N 59 59 ztext_43 ztyped_43 zspot_43) (fun q10 => if q10 = 0 then (Option.bind (f_X4_fails N 1 zreason_43) (fun q19 => chk (isZ q19.1) (some (.inl (q19.1, zspot_43, q19.2, zplaces_43, zowners_43, zranks_43, zsets_43, ztoldAt_43, zline_43))))) else (if zplaces_43 = 12 then (Option.bind (f_X4_fails N 4 zreason_43) (fun q16 => chk (isZ q16.1) (some (.inl (q16.1, zspot_43, q16.2, zplaces_43, zowners_43, zranks_43, zsets_43, ztoldAt_43, zline_43))))) else (Option.bind (f_X4_readsPlace N ztext_43 ztyped_43 (zspot_43 + 1) zreason_43 zplaces_43 zowners_43 zranks_43 zsets_43 ztoldAt_43 zline_43) (fun q14 => f_X4_isRight_L43 N ztext_43 ztyped_43 n_43 q14.1 q14.2.1 q14.2.2.1 q14.2.2.2.1 q14.2.2.2.2.1 q14.2.2.2.2.2.1 q14.2.2.2.2.2.2.1 q14.2.2.2.2.2.2.2.1 q14.2.2.2.2.2.2.2.2))))))
def f_X4_isRight (N : Nat) (ztext : Nat → Int32) (ztyped : Int32) (zspot : Int32) (zreason : Int32) (zplaces : Int32) (zowners : Nat → Int32) (zranks : Nat → Int32) (zsets : Nat → Int32) (ztoldAt : Nat → Int32) (zline : Nat → Int32) : Option (Int32 × Int32 × Int32 × Int32 × (Nat → Int32) × (Nat → Int32) × (Nat → Int32) × (Nat → Int32) × (Nat → Int32)) :=
    Option.bind (f_X4_isRight_L12 N N 0 ztoldAt zline) (fun q5 => Option.bind (f_X4_readsPlace N ztext ztyped 0 zreason 0 zowners zranks zsets q5.1 q5.2) (fun q6 => Option.bind (f_X4_isRight_L43 N ztext ztyped N q6.1 q6.2.1 q6.2.2.1 q6.2.2.2.1 q6.2.2.2.2.1 q6.2.2.2.2.2.1 q6.2.2.2.2.2.2.1 q6.2.2.2.2.2.2.2.1 q6.2.2.2.2.2.2.2.2) (fun q24 => sm q24 some (fun t25 => if t25.1 = 0 then (some (0, t25.2.1, t25.2.2.1, t25.2.2.2.1, t25.2.2.2.2.1, t25.2.2.2.2.2.1, t25.2.2.2.2.2.2.1, t25.2.2.2.2.2.2.2.1, t25.2.2.2.2.2.2.2.2)) else (Option.bind (f_X4_areThere N t25.2.1 t25.2.2.1 t25.2.2.2.1 t25.2.2.2.2.2.2.2.1) (fun q27 => if q27.1 = 0 then (some (0, q27.2.1, q27.2.2, t25.2.2.2.1, t25.2.2.2.2.1, t25.2.2.2.2.2.1, t25.2.2.2.2.2.2.1, t25.2.2.2.2.2.2.2.1, t25.2.2.2.2.2.2.2.2)) else (some (1, q27.2.1, q27.2.2, t25.2.2.2.1, t25.2.2.2.2.1, t25.2.2.2.2.2.1, t25.2.2.2.2.2.2.1, t25.2.2.2.2.2.2.2.1, t25.2.2.2.2.2.2.2.2))))))))
set_option maxHeartbeats 4000000 in
set_option maxRecDepth 100000 in
theorem c_X4_isRight (l : Launch) (D : va_G) (cI cC cH : ClassId) (a0 : Nat) (a_s : Nat) (a_past : Nat) (a_kept : Nat) (a_text : Nat) (a_measure : Nat) (a_chosen : Nat) (a_ways : Nat) (a_owners : Nat) (a_ranks : Nat) (a_sets : Nat) (a_toldAt : Nat) (a_line : Nat) (N : Nat) (zisKept : Int32) (zpasts : Int32) (ztext : Nat → Int32) (ztyped : Int32) (zmost1 : Int32) (zmost3 : Int32) (zmost5 : Int32) (zspot : Int32) (zreason : Int32) (zplaces : Int32) (zowners : Nat → Int32) (zranks : Nat → Int32) (zsets : Nat → Int32) (ztoldAt : Nat → Int32) (zline : Nat → Int32) (y : Int32 × Int32 × Int32 × Int32 × (Nat → Int32) × (Nat → Int32) × (Nat → Int32) × (Nat → Int32) × (Nat → Int32)) (h : f_X4_isRight N ztext ztyped zspot zreason zplaces zowners zranks zsets ztoldAt zline = some y) : CTi l yX4_isRight cX4_isRight 2 (some .boolean) 4 88 D (tyL cI cC cH) [.ref a0] [(a0, .inr (3, [.ref a_s, .ref a_past, .ref a_kept, .int zisKept, .int zpasts, .ref a_text, .int ztyped, .ref a_measure, .int zmost1, .int zmost3, .int zmost5, .ref a_chosen, .ref a_ways, .int zspot, .int zreason, .int zplaces, .ref a_owners, .ref a_ranks, .ref a_sets, .ref a_toldAt, .ref a_line])), (a_text, .inl (cI, 80, .inl ztext)), (a_owners, .inl (cI, 12, .inl zowners)), (a_ranks, .inl (cI, 12, .inl zranks)), (a_sets, .inl (cI, 12, .inl zsets)), (a_toldAt, .inl (cI, 100, .inl ztoldAt)), (a_line, .inl (cI, 100, .inl zline))] [(a0, .inr (3, [.ref a_s, .ref a_past, .ref a_kept, .int zisKept, .int zpasts, .ref a_text, .int ztyped, .ref a_measure, .int zmost1, .int zmost3, .int zmost5, .ref a_chosen, .ref a_ways, .int y.2.1, .int y.2.2.1, .int y.2.2.2.1, .ref a_owners, .ref a_ranks, .ref a_sets, .ref a_toldAt, .ref a_line])), (a_text, .inl (cI, 80, .inl ztext)), (a_owners, .inl (cI, 12, .inl y.2.2.2.2.1)), (a_ranks, .inl (cI, 12, .inl y.2.2.2.2.2.1)), (a_sets, .inl (cI, 12, .inl y.2.2.2.2.2.2.1)), (a_toldAt, .inl (cI, 100, .inl y.2.2.2.2.2.2.2.1)), (a_line, .inl (cI, 100, .inl y.2.2.2.2.2.2.2.2))] y.1 := by
  unfold f_X4_isRight at h
  refine ctZ (by decide) (Nat.le_of_ble_eq_true rfl) ?_
  intro p e s m args below meth c A Q ls F hret hP hD hS hl
  have hx := F.1
  have hb := F.2.1
  have hown : s.vm.findClass RX4 = some m.cls := F.2.2.2.1
  have hts := F.2.2.2.2.1
  have hN := F.2.2.2.2.2.1
  have hK := F.2.2.2.2.2.2.1
  have hl : lv_has ls 2 [(0, .ref a0)] := hl
  refine lv_aload_n hx hb dX4_isRight_0 rfl (lv_at hl 0 rfl) ?_
  refine lv_iconst (v := 0) hx hb dX4_isRight_1 (by decide) ?_
  refine va_put (D := D) (ci := 3) (v := .int 0) (ty := .int) (C := RX4) (T := TX4) (N := 21) hx hb hts inG4 tyX4 tyX4_ok nmX4 hown hK hP hD hS 0 rfl rfl 13 (by decide) (hts _ wd2_165) (fun _ h9 => h9) rfl (by decide +kernel) rfl rfl (Nat.le_of_ble_eq_true rfl) dX4_isRight_2 (fun H locs hP hD hS => ?_)
  have hP : va_P D vwCl [(a0, .inr (3, [.ref a_s, .ref a_past, .ref a_kept, .int zisKept, .int zpasts, .ref a_text, .int ztyped, .ref a_measure, .int zmost1, .int zmost3, .int zmost5, .ref a_chosen, .ref a_ways, .int 0, .int zreason, .int zplaces, .ref a_owners, .ref a_ranks, .ref a_sets, .ref a_toldAt, .ref a_line])), (a_text, .inl (cI, 80, .inl ztext)), (a_owners, .inl (cI, 12, .inl zowners)), (a_ranks, .inl (cI, 12, .inl zranks)), (a_sets, .inl (cI, 12, .inl zsets)), (a_toldAt, .inl (cI, 100, .inl ztoldAt)), (a_line, .inl (cI, 100, .inl zline))] H := hP
  have hD : va_D A [(a0, .inr (3, [.ref a_s, .ref a_past, .ref a_kept, .int zisKept, .int zpasts, .ref a_text, .int ztyped, .ref a_measure, .int zmost1, .int zmost3, .int zmost5, .ref a_chosen, .ref a_ways, .int 0, .int zreason, .int zplaces, .ref a_owners, .ref a_ranks, .ref a_sets, .ref a_toldAt, .ref a_line])), (a_text, .inl (cI, 80, .inl ztext)), (a_owners, .inl (cI, 12, .inl zowners)), (a_ranks, .inl (cI, 12, .inl zranks)), (a_sets, .inl (cI, 12, .inl zsets)), (a_toldAt, .inl (cI, 100, .inl ztoldAt)), (a_line, .inl (cI, 100, .inl zline))] := hD
  refine lv_aload_n hx hb dX4_isRight_5 rfl (lv_at hl 0 rfl) ?_
  refine lv_iconst (v := 0) hx hb dX4_isRight_6 (by decide) ?_
  refine va_put (D := D) (ci := 3) (v := .int 0) (ty := .int) (C := RX4) (T := TX4) (N := 21) hx hb hts inG4 tyX4 tyX4_ok nmX4 hown hK hP hD hS 0 rfl rfl 15 (by decide) (hts _ wd2_167) (fun _ h9 => h9) rfl (by decide +kernel) rfl rfl (Nat.le_of_ble_eq_true rfl) dX4_isRight_7 (fun H locs hP hD hS => ?_)
  have hP : va_P D vwCl [(a0, .inr (3, [.ref a_s, .ref a_past, .ref a_kept, .int zisKept, .int zpasts, .ref a_text, .int ztyped, .ref a_measure, .int zmost1, .int zmost3, .int zmost5, .ref a_chosen, .ref a_ways, .int 0, .int zreason, .int 0, .ref a_owners, .ref a_ranks, .ref a_sets, .ref a_toldAt, .ref a_line])), (a_text, .inl (cI, 80, .inl ztext)), (a_owners, .inl (cI, 12, .inl zowners)), (a_ranks, .inl (cI, 12, .inl zranks)), (a_sets, .inl (cI, 12, .inl zsets)), (a_toldAt, .inl (cI, 100, .inl ztoldAt)), (a_line, .inl (cI, 100, .inl zline))] H := hP
  have hD : va_D A [(a0, .inr (3, [.ref a_s, .ref a_past, .ref a_kept, .int zisKept, .int zpasts, .ref a_text, .int ztyped, .ref a_measure, .int zmost1, .int zmost3, .int zmost5, .ref a_chosen, .ref a_ways, .int 0, .int zreason, .int 0, .ref a_owners, .ref a_ranks, .ref a_sets, .ref a_toldAt, .ref a_line])), (a_text, .inl (cI, 80, .inl ztext)), (a_owners, .inl (cI, 12, .inl zowners)), (a_ranks, .inl (cI, 12, .inl zranks)), (a_sets, .inl (cI, 12, .inl zsets)), (a_toldAt, .inl (cI, 100, .inl ztoldAt)), (a_line, .inl (cI, 100, .inl zline))] := hD
  refine lv_iconst (v := 0) hx hb dX4_isRight_10 (by decide) ?_
  refine lv_istore_n (lv' := [(1, .int 0), (0, .ref a0)]) hx hb dX4_isRight_11 rfl hl (by decide) rfl (fun ls hl => ?_)
  have L_12 : ∀ (zisKept_12 : Int32) (zpasts_12 : Int32) (ztext_12 : Nat → Int32) (ztyped_12 : Int32) (zmost1_12 : Int32) (zmost3_12 : Int32) (zmost5_12 : Int32) (zspot_12 : Int32) (zreason_12 : Int32) (zplaces_12 : Int32) (zowners_12 : Nat → Int32) (zranks_12 : Nat → Int32) (zsets_12 : Nat → Int32), ∀ (n_12 : Nat) (x1_12 : Int32) (ztoldAt_12 : Nat → Int32) (zline_12 : Nat → Int32) (q4 : ((Nat → Int32) × (Nat → Int32))), f_X4_isRight_L12 N n_12 x1_12 ztoldAt_12 zline_12 = some q4 → (∀ (ls : Array Slot) (H : Heap) (locs : List Loc), lv_has ls 2 [(0, .ref a0)] → va_P D vwCl [(a0, .inr (3, [.ref a_s, .ref a_past, .ref a_kept, .int zisKept_12, .int zpasts_12, .ref a_text, .int ztyped_12, .ref a_measure, .int zmost1_12, .int zmost3_12, .int zmost5_12, .ref a_chosen, .ref a_ways, .int zspot_12, .int zreason_12, .int zplaces_12, .ref a_owners, .ref a_ranks, .ref a_sets, .ref a_toldAt, .ref a_line])), (a_text, .inl (cI, 80, .inl ztext_12)), (a_owners, .inl (cI, 12, .inl zowners_12)), (a_ranks, .inl (cI, 12, .inl zranks_12)), (a_sets, .inl (cI, 12, .inl zsets_12)), (a_toldAt, .inl (cI, 100, .inl q4.1)), (a_line, .inl (cI, 100, .inl q4.2))] H → va_D A [(a0, .inr (3, [.ref a_s, .ref a_past, .ref a_kept, .int zisKept_12, .int zpasts_12, .ref a_text, .int ztyped_12, .ref a_measure, .int zmost1_12, .int zmost3_12, .int zmost5_12, .ref a_chosen, .ref a_ways, .int zspot_12, .int zreason_12, .int zplaces_12, .ref a_owners, .ref a_ranks, .ref a_sets, .ref a_toldAt, .ref a_line])), (a_text, .inl (cI, 80, .inl ztext_12)), (a_owners, .inl (cI, 12, .inl zowners_12)), (a_ranks, .inl (cI, 12, .inl zranks_12)), (a_sets, .inl (cI, 12, .inl zsets_12)), (a_toldAt, .inl (cI, 100, .inl q4.1)), (a_line, .inl (cI, 100, .inl q4.2))] → va_S A s.heap H locs → W p l e (rmm 4 88) s m args below meth c H locs 0 0 Q (F0 m 38 ls [])) → ∀ (ls : Array Slot) (H : Heap) (locs : List Loc), lv_has ls 2 [(0, .ref a0), (1, .int x1_12)] → va_P D vwCl [(a0, .inr (3, [.ref a_s, .ref a_past, .ref a_kept, .int zisKept_12, .int zpasts_12, .ref a_text, .int ztyped_12, .ref a_measure, .int zmost1_12, .int zmost3_12, .int zmost5_12, .ref a_chosen, .ref a_ways, .int zspot_12, .int zreason_12, .int zplaces_12, .ref a_owners, .ref a_ranks, .ref a_sets, .ref a_toldAt, .ref a_line])), (a_text, .inl (cI, 80, .inl ztext_12)), (a_owners, .inl (cI, 12, .inl zowners_12)), (a_ranks, .inl (cI, 12, .inl zranks_12)), (a_sets, .inl (cI, 12, .inl zsets_12)), (a_toldAt, .inl (cI, 100, .inl ztoldAt_12)), (a_line, .inl (cI, 100, .inl zline_12))] H → va_D A [(a0, .inr (3, [.ref a_s, .ref a_past, .ref a_kept, .int zisKept_12, .int zpasts_12, .ref a_text, .int ztyped_12, .ref a_measure, .int zmost1_12, .int zmost3_12, .int zmost5_12, .ref a_chosen, .ref a_ways, .int zspot_12, .int zreason_12, .int zplaces_12, .ref a_owners, .ref a_ranks, .ref a_sets, .ref a_toldAt, .ref a_line])), (a_text, .inl (cI, 80, .inl ztext_12)), (a_owners, .inl (cI, 12, .inl zowners_12)), (a_ranks, .inl (cI, 12, .inl zranks_12)), (a_sets, .inl (cI, 12, .inl zsets_12)), (a_toldAt, .inl (cI, 100, .inl ztoldAt_12)), (a_line, .inl (cI, 100, .inl zline_12))] → va_S A s.heap H locs → W p l e (rmm 4 88) s m args below meth c H locs 0 0 Q (F0 m 12 ls []) := by
    intro zisKept_12 zpasts_12 ztext_12 ztyped_12 zmost1_12 zmost3_12 zmost5_12 zspot_12 zreason_12 zplaces_12 zowners_12 zranks_12 zsets_12 n_12
    induction n_12 with
    | zero => intro x1_12 ztoldAt_12 zline_12 q4 h; exact no_s h
    | succ n_12 ih_12 =>
      intro x1_12 ztoldAt_12 zline_12 q4 h J_12 ls H locs hl hP hD hS
      rw [f_X4_isRight_L12] at h
      refine lv_iload_n hx hb dX4_isRight_12 rfl (lv_at hl 1 rfl) ?_
      refine lv_bipush (v := 100) hx hb dX4_isRight_13 (by decide) ?_
      refine lv_icmp_ge (tgt := 38) hx hb dX4_isRight_15 (by decide) (fun c1 => ?_) (fun c1 => ?_)
      · have h := itT h c1
        obtain rfl := Option.some.inj h
        exact J_12 _ _ _ (lv_sub hl [0] rfl) hP hD hS
      · have h := itF h c1
        refine lv_aload_n hx hb dX4_isRight_18 rfl (lv_at hl 0 rfl) ?_
        refine va_get (D := D) (ci := 3) (v := .ref a_toldAt) (C := RX4) (T := TX4) (N := 21) hx hb hts inG4 hown hK hP 0 rfl rfl 19 (by decide) (hts _ wd2_171) (fun _ h9 => h9) rfl dX4_isRight_19 ?_
        refine lv_iload_n hx hb dX4_isRight_22 rfl (lv_at hl 1 rfl) ?_
        refine lv_iconst (v := (-1)) hx hb dX4_isRight_23 (by decide) ?_
        obtain ⟨g2, h⟩ := chk_s h
        refine va_iast hx hb hK hP hD hS 5 0 rfl rfl (gi_in g2) dX4_isRight_24 (fun H locs hP hD hS => ?_)
        have hP : va_P D vwCl [(a0, .inr (3, [.ref a_s, .ref a_past, .ref a_kept, .int zisKept_12, .int zpasts_12, .ref a_text, .int ztyped_12, .ref a_measure, .int zmost1_12, .int zmost3_12, .int zmost5_12, .ref a_chosen, .ref a_ways, .int zspot_12, .int zreason_12, .int zplaces_12, .ref a_owners, .ref a_ranks, .ref a_sets, .ref a_toldAt, .ref a_line])), (a_text, .inl (cI, 80, .inl ztext_12)), (a_owners, .inl (cI, 12, .inl zowners_12)), (a_ranks, .inl (cI, 12, .inl zranks_12)), (a_sets, .inl (cI, 12, .inl zsets_12)), (a_toldAt, .inl (cI, 100, .inl (upd ztoldAt_12 (Int32.toNatClampNeg x1_12) (-1)))), (a_line, .inl (cI, 100, .inl zline_12))] H := hP
        have hD : va_D A [(a0, .inr (3, [.ref a_s, .ref a_past, .ref a_kept, .int zisKept_12, .int zpasts_12, .ref a_text, .int ztyped_12, .ref a_measure, .int zmost1_12, .int zmost3_12, .int zmost5_12, .ref a_chosen, .ref a_ways, .int zspot_12, .int zreason_12, .int zplaces_12, .ref a_owners, .ref a_ranks, .ref a_sets, .ref a_toldAt, .ref a_line])), (a_text, .inl (cI, 80, .inl ztext_12)), (a_owners, .inl (cI, 12, .inl zowners_12)), (a_ranks, .inl (cI, 12, .inl zranks_12)), (a_sets, .inl (cI, 12, .inl zsets_12)), (a_toldAt, .inl (cI, 100, .inl (upd ztoldAt_12 (Int32.toNatClampNeg x1_12) (-1)))), (a_line, .inl (cI, 100, .inl zline_12))] := hD
        refine lv_aload_n hx hb dX4_isRight_25 rfl (lv_at hl 0 rfl) ?_
        refine va_get (D := D) (ci := 3) (v := .ref a_line) (C := RX4) (T := TX4) (N := 21) hx hb hts inG4 hown hK hP 0 rfl rfl 20 (by decide) (hts _ wd2_172) (fun _ h9 => h9) rfl dX4_isRight_26 ?_
        refine lv_iload_n hx hb dX4_isRight_29 rfl (lv_at hl 1 rfl) ?_
        refine lv_iconst (v := 0) hx hb dX4_isRight_30 (by decide) ?_
        obtain ⟨g3, h⟩ := chk_s h
        refine va_iast hx hb hK hP hD hS 6 0 rfl rfl (gi_in g3) dX4_isRight_31 (fun H locs hP hD hS => ?_)
        have hP : va_P D vwCl [(a0, .inr (3, [.ref a_s, .ref a_past, .ref a_kept, .int zisKept_12, .int zpasts_12, .ref a_text, .int ztyped_12, .ref a_measure, .int zmost1_12, .int zmost3_12, .int zmost5_12, .ref a_chosen, .ref a_ways, .int zspot_12, .int zreason_12, .int zplaces_12, .ref a_owners, .ref a_ranks, .ref a_sets, .ref a_toldAt, .ref a_line])), (a_text, .inl (cI, 80, .inl ztext_12)), (a_owners, .inl (cI, 12, .inl zowners_12)), (a_ranks, .inl (cI, 12, .inl zranks_12)), (a_sets, .inl (cI, 12, .inl zsets_12)), (a_toldAt, .inl (cI, 100, .inl (upd ztoldAt_12 (Int32.toNatClampNeg x1_12) (-1)))), (a_line, .inl (cI, 100, .inl (upd zline_12 (Int32.toNatClampNeg x1_12) 0)))] H := hP
        have hD : va_D A [(a0, .inr (3, [.ref a_s, .ref a_past, .ref a_kept, .int zisKept_12, .int zpasts_12, .ref a_text, .int ztyped_12, .ref a_measure, .int zmost1_12, .int zmost3_12, .int zmost5_12, .ref a_chosen, .ref a_ways, .int zspot_12, .int zreason_12, .int zplaces_12, .ref a_owners, .ref a_ranks, .ref a_sets, .ref a_toldAt, .ref a_line])), (a_text, .inl (cI, 80, .inl ztext_12)), (a_owners, .inl (cI, 12, .inl zowners_12)), (a_ranks, .inl (cI, 12, .inl zranks_12)), (a_sets, .inl (cI, 12, .inl zsets_12)), (a_toldAt, .inl (cI, 100, .inl (upd ztoldAt_12 (Int32.toNatClampNeg x1_12) (-1)))), (a_line, .inl (cI, 100, .inl (upd zline_12 (Int32.toNatClampNeg x1_12) 0)))] := hD
        refine lv_iinc (v := x1_12 + 1) (lv' := [(1, .int (x1_12 + 1)), (0, .ref a0)]) hx hb dX4_isRight_32 hl (k := 1) rfl rfl (by decide) rfl (fun ls hl => ?_)
        refine lv_goto (tgt := 12) hx hb dX4_isRight_35 (by decide) ?_
        exact ih_12 (x1_12 + 1) (upd ztoldAt_12 (Int32.toNatClampNeg x1_12) (-1)) (upd zline_12 (Int32.toNatClampNeg x1_12) 0) _ h J_12 _ _ _ (lv_sub hl [1, 0] rfl) hP hD hS
  obtain ⟨q5, hb32, h⟩ := bd h
  refine L_12 zisKept zpasts ztext ztyped zmost1 zmost3 zmost5 0 zreason 0 zowners zranks zsets N 0 ztoldAt zline q5 hb32 ?_ _ _ _ (lv_sub hl [1, 0] rfl) hP hD hS
  intro ls H locs hl hP hD hS
  refine lv_aload_n hx hb dX4_isRight_38 rfl (lv_at hl 0 rfl) ?_
  obtain ⟨q6, hq7, h⟩ := bd h
  refine kvI (ws' := [(a0, .inr (3, [.ref a_s, .ref a_past, .ref a_kept, .int zisKept, .int zpasts, .ref a_text, .int ztyped, .ref a_measure, .int zmost1, .int zmost3, .int zmost5, .ref a_chosen, .ref a_ways, .int q6.2.1, .int q6.2.2.1, .int q6.2.2.2.1, .ref a_owners, .ref a_ranks, .ref a_sets, .ref a_toldAt, .ref a_line])), (a_text, .inl (cI, 80, .inl ztext)), (a_owners, .inl (cI, 12, .inl q6.2.2.2.2.1)), (a_ranks, .inl (cI, 12, .inl q6.2.2.2.2.2.1)), (a_sets, .inl (cI, 12, .inl q6.2.2.2.2.2.2.1)), (a_toldAt, .inl (cI, 100, .inl q6.2.2.2.2.2.2.2.1)), (a_line, .inl (cI, 100, .inl q6.2.2.2.2.2.2.2.2))]) (wr := []) (As := []) F (c_X4_readsPlace l D cI cC cH a0 a_s a_past a_kept a_text a_measure a_chosen a_ways a_owners a_ranks a_sets a_toldAt a_line N zisKept zpasts ztext ztyped zmost1 zmost3 zmost5 0 zreason 0 zowners zranks zsets q5.1 q5.2 q6 hq7) yfX4_readsPlace ⟨wd3_152, wd3_154, wdp_38⟩ hP hD hS [0, 1, 2, 3, 4, 5, 6] [] [0, 1, 2, 3, 4, 5, 6] rfl rfl (by decide) (by decide) (by decide) rfl (by decide) 0 3 rfl rfl rfl ⟨Nat.le_of_ble_eq_true rfl, Nat.le_of_ble_eq_true rfl, Nat.zero_le _, Nat.zero_le _⟩ rfl hl rfl (Nat.le_of_ble_eq_true rfl) dX4_isRight_39 (fun H locs hP hD hS => ?_)
  refine lv_istore_n (lv' := [(1, .int q6.1), (0, .ref a0)]) hx hb dX4_isRight_42 rfl hl (by decide) rfl (fun ls hl => ?_)
  have L_43 : ∀ (n_43 : Nat) (x1_43 : Int32) (zspot_43 : Int32) (zreason_43 : Int32) (zplaces_43 : Int32) (zowners_43 : Nat → Int32) (zranks_43 : Nat → Int32) (zsets_43 : Nat → Int32) (ztoldAt_43 : Nat → Int32) (zline_43 : Nat → Int32) (q22 : ((Int32 × Int32 × Int32 × Int32 × (Nat → Int32) × (Nat → Int32) × (Nat → Int32) × (Nat → Int32) × (Nat → Int32)) ⊕ (Int32 × Int32 × Int32 × Int32 × (Nat → Int32) × (Nat → Int32) × (Nat → Int32) × (Nat → Int32) × (Nat → Int32)))), f_X4_isRight_L43 N ztext ztyped n_43 x1_43 zspot_43 zreason_43 zplaces_43 zowners_43 zranks_43 zsets_43 ztoldAt_43 zline_43 = some q22 → (∀ (t23 : Int32 × Int32 × Int32 × Int32 × (Nat → Int32) × (Nat → Int32) × (Nat → Int32) × (Nat → Int32) × (Nat → Int32)), q22 = .inr t23 → ∀ (ls : Array Slot) (H : Heap) (locs : List Loc), lv_has ls 2 [(0, .ref a0), (1, .int t23.1)] → va_P D vwCl [(a0, .inr (3, [.ref a_s, .ref a_past, .ref a_kept, .int zisKept, .int zpasts, .ref a_text, .int ztyped, .ref a_measure, .int zmost1, .int zmost3, .int zmost5, .ref a_chosen, .ref a_ways, .int t23.2.1, .int t23.2.2.1, .int t23.2.2.2.1, .ref a_owners, .ref a_ranks, .ref a_sets, .ref a_toldAt, .ref a_line])), (a_text, .inl (cI, 80, .inl ztext)), (a_owners, .inl (cI, 12, .inl t23.2.2.2.2.1)), (a_ranks, .inl (cI, 12, .inl t23.2.2.2.2.2.1)), (a_sets, .inl (cI, 12, .inl t23.2.2.2.2.2.2.1)), (a_toldAt, .inl (cI, 100, .inl t23.2.2.2.2.2.2.2.1)), (a_line, .inl (cI, 100, .inl t23.2.2.2.2.2.2.2.2))] H → va_D A [(a0, .inr (3, [.ref a_s, .ref a_past, .ref a_kept, .int zisKept, .int zpasts, .ref a_text, .int ztyped, .ref a_measure, .int zmost1, .int zmost3, .int zmost5, .ref a_chosen, .ref a_ways, .int t23.2.1, .int t23.2.2.1, .int t23.2.2.2.1, .ref a_owners, .ref a_ranks, .ref a_sets, .ref a_toldAt, .ref a_line])), (a_text, .inl (cI, 80, .inl ztext)), (a_owners, .inl (cI, 12, .inl t23.2.2.2.2.1)), (a_ranks, .inl (cI, 12, .inl t23.2.2.2.2.2.1)), (a_sets, .inl (cI, 12, .inl t23.2.2.2.2.2.2.1)), (a_toldAt, .inl (cI, 100, .inl t23.2.2.2.2.2.2.2.1)), (a_line, .inl (cI, 100, .inl t23.2.2.2.2.2.2.2.2))] → va_S A s.heap H locs → W p l e (rmm 4 88) s m args below meth c H locs 0 0 Q (F0 m 108 ls [])) → (∀ r9, q22 = .inl r9 → r9 = y) → ∀ (ls : Array Slot) (H : Heap) (locs : List Loc), lv_has ls 2 [(0, .ref a0), (1, .int x1_43)] → va_P D vwCl [(a0, .inr (3, [.ref a_s, .ref a_past, .ref a_kept, .int zisKept, .int zpasts, .ref a_text, .int ztyped, .ref a_measure, .int zmost1, .int zmost3, .int zmost5, .ref a_chosen, .ref a_ways, .int zspot_43, .int zreason_43, .int zplaces_43, .ref a_owners, .ref a_ranks, .ref a_sets, .ref a_toldAt, .ref a_line])), (a_text, .inl (cI, 80, .inl ztext)), (a_owners, .inl (cI, 12, .inl zowners_43)), (a_ranks, .inl (cI, 12, .inl zranks_43)), (a_sets, .inl (cI, 12, .inl zsets_43)), (a_toldAt, .inl (cI, 100, .inl ztoldAt_43)), (a_line, .inl (cI, 100, .inl zline_43))] H → va_D A [(a0, .inr (3, [.ref a_s, .ref a_past, .ref a_kept, .int zisKept, .int zpasts, .ref a_text, .int ztyped, .ref a_measure, .int zmost1, .int zmost3, .int zmost5, .ref a_chosen, .ref a_ways, .int zspot_43, .int zreason_43, .int zplaces_43, .ref a_owners, .ref a_ranks, .ref a_sets, .ref a_toldAt, .ref a_line])), (a_text, .inl (cI, 80, .inl ztext)), (a_owners, .inl (cI, 12, .inl zowners_43)), (a_ranks, .inl (cI, 12, .inl zranks_43)), (a_sets, .inl (cI, 12, .inl zsets_43)), (a_toldAt, .inl (cI, 100, .inl ztoldAt_43)), (a_line, .inl (cI, 100, .inl zline_43))] → va_S A s.heap H locs → W p l e (rmm 4 88) s m args below meth c H locs 0 0 Q (F0 m 43 ls []) := by
    intro  n_43
    induction n_43 with
    | zero => intro x1_43 zspot_43 zreason_43 zplaces_43 zowners_43 zranks_43 zsets_43 ztoldAt_43 zline_43 q22 h; exact no_s h
    | succ n_43 ih_43 =>
      intro x1_43 zspot_43 zreason_43 zplaces_43 zowners_43 zranks_43 zsets_43 ztoldAt_43 zline_43 q22 h J_43 hr_43 ls H locs hl hP hD hS
      rw [f_X4_isRight_L43] at h
      refine lv_iload_n hx hb dX4_isRight_43 rfl (lv_at hl 1 rfl) ?_
      refine lv_if_eq (tgt := 108) hx hb dX4_isRight_44 (by decide) (fun c8 => ?_) (fun c8 => ?_)
      · have h := itT h c8
        obtain rfl := Option.some.inj h
        exact J_43 _ rfl _ _ _ (lv_sub hl [0, 1] rfl) hP hD hS
      · have h := itF h c8
        refine lv_aload_n hx hb dX4_isRight_47 rfl (lv_at hl 0 rfl) ?_
        refine va_get (D := D) (ci := 3) (v := .int zspot_43) (C := RX4) (T := TX4) (N := 21) hx hb hts inG4 hown hK hP 0 rfl rfl 13 (by decide) (hts _ wd2_165) (fun _ h9 => h9) rfl dX4_isRight_48 ?_
        refine lv_aload_n hx hb dX4_isRight_51 rfl (lv_at hl 0 rfl) ?_
        refine va_get (D := D) (ci := 3) (v := .int ztyped) (C := RX4) (T := TX4) (N := 21) hx hb hts inG4 hown hK hP 0 rfl rfl 6 (by decide) (hts _ wd2_158) (fun _ h9 => h9) rfl dX4_isRight_52 ?_
        refine lv_icmp_ge (tgt := 108) hx hb dX4_isRight_55 (by decide) (fun c9 => ?_) (fun c9 => ?_)
        · have h := itT h c9
          obtain rfl := Option.some.inj h
          exact J_43 _ rfl _ _ _ (lv_sub hl [0, 1] rfl) hP hD hS
        · have h := itF h c9
          refine lv_aload_n hx hb dX4_isRight_58 rfl (lv_at hl 0 rfl) ?_
          refine lv_bipush (v := 59) hx hb dX4_isRight_59 (by decide) ?_
          refine lv_bipush (v := 59) hx hb dX4_isRight_61 (by decide) ?_
          obtain ⟨q10, hq11, h⟩ := bd h
          refine kvI (ws' := [(a0, .inr (3, [.ref a_s, .ref a_past, .ref a_kept, .int zisKept, .int zpasts, .ref a_text, .int ztyped, .ref a_measure, .int zmost1, .int zmost3, .int zmost5, .ref a_chosen, .ref a_ways, .int zspot_43, .int zreason_43, .int zplaces_43, .ref a_owners, .ref a_ranks, .ref a_sets, .ref a_toldAt, .ref a_line])), (a_text, .inl (cI, 80, .inl ztext)), (a_owners, .inl (cI, 12, .inl zowners_43)), (a_ranks, .inl (cI, 12, .inl zranks_43)), (a_sets, .inl (cI, 12, .inl zsets_43)), (a_toldAt, .inl (cI, 100, .inl ztoldAt_43)), (a_line, .inl (cI, 100, .inl zline_43))]) (wr := [(a_owners, .inl (cI, 12, .inl zowners_43)), (a_ranks, .inl (cI, 12, .inl zranks_43)), (a_sets, .inl (cI, 12, .inl zsets_43)), (a_toldAt, .inl (cI, 100, .inl ztoldAt_43)), (a_line, .inl (cI, 100, .inl zline_43))]) (As := [.int 59, .int 59]) F (c_X4_isAt l D cI cC cH a0 a_s a_past a_kept a_text a_measure a_chosen a_ways a_owners a_ranks a_sets a_toldAt a_line N 59 59 zisKept zpasts ztext ztyped zmost1 zmost3 zmost5 zspot_43 zreason_43 zplaces_43 q10 hq11) yfX4_isAt ⟨wd3_156, wd3_158, wdp_39⟩ hP hD hS [0, 1] [2, 3, 4, 5, 6] [5, 6, 0, 1, 2, 3, 4] rfl rfl (by decide) (by decide) (by decide) rfl (by decide) 0 3 rfl rfl rfl ⟨Nat.le_of_ble_eq_true rfl, Nat.le_of_ble_eq_true rfl, Nat.zero_le _, Nat.zero_le _⟩ rfl hl rfl (Nat.le_of_ble_eq_true rfl) dX4_isRight_63 (fun H locs hP hD hS => ?_)
          refine lv_if_ne (tgt := 75) hx hb dX4_isRight_66 (by decide) (fun c12 => ?_) (fun c12 => ?_)
          · have h := itF h c12
            refine lv_aload_n hx hb dX4_isRight_75 rfl (lv_at hl 0 rfl) ?_
            refine va_get (D := D) (ci := 3) (v := .int zplaces_43) (C := RX4) (T := TX4) (N := 21) hx hb hts inG4 hown hK hP 0 rfl rfl 15 (by decide) (hts _ wd2_167) (fun _ h9 => h9) rfl dX4_isRight_76 ?_
            refine lv_bipush (v := 12) hx hb dX4_isRight_79 (by decide) ?_
            refine lv_icmp_ne (tgt := 90) hx hb dX4_isRight_81 (by decide) (fun c13 => ?_) (fun c13 => ?_)
            · have h := itF h c13
              refine lv_aload_n hx hb dX4_isRight_90 rfl (lv_at hl 0 rfl) ?_
              refine lv_dup hx hb dX4_isRight_91 rfl ?_
              refine va_get (D := D) (ci := 3) (v := .int zspot_43) (C := RX4) (T := TX4) (N := 21) hx hb hts inG4 hown hK hP 0 rfl rfl 13 (by decide) (hts _ wd2_165) (fun _ h9 => h9) rfl dX4_isRight_92 ?_
              refine lv_iconst (v := 1) hx hb dX4_isRight_95 (by decide) ?_
              refine lv_iadd hx hb dX4_isRight_96 ?_
              refine va_put (D := D) (ci := 3) (v := .int (zspot_43 + 1)) (ty := .int) (C := RX4) (T := TX4) (N := 21) hx hb hts inG4 tyX4 tyX4_ok nmX4 hown hK hP hD hS 0 rfl rfl 13 (by decide) (hts _ wd2_165) (fun _ h9 => h9) rfl (by decide +kernel) rfl rfl (Nat.le_of_ble_eq_true rfl) dX4_isRight_97 (fun H locs hP hD hS => ?_)
              have hP : va_P D vwCl [(a0, .inr (3, [.ref a_s, .ref a_past, .ref a_kept, .int zisKept, .int zpasts, .ref a_text, .int ztyped, .ref a_measure, .int zmost1, .int zmost3, .int zmost5, .ref a_chosen, .ref a_ways, .int (zspot_43 + 1), .int zreason_43, .int zplaces_43, .ref a_owners, .ref a_ranks, .ref a_sets, .ref a_toldAt, .ref a_line])), (a_text, .inl (cI, 80, .inl ztext)), (a_owners, .inl (cI, 12, .inl zowners_43)), (a_ranks, .inl (cI, 12, .inl zranks_43)), (a_sets, .inl (cI, 12, .inl zsets_43)), (a_toldAt, .inl (cI, 100, .inl ztoldAt_43)), (a_line, .inl (cI, 100, .inl zline_43))] H := hP
              have hD : va_D A [(a0, .inr (3, [.ref a_s, .ref a_past, .ref a_kept, .int zisKept, .int zpasts, .ref a_text, .int ztyped, .ref a_measure, .int zmost1, .int zmost3, .int zmost5, .ref a_chosen, .ref a_ways, .int (zspot_43 + 1), .int zreason_43, .int zplaces_43, .ref a_owners, .ref a_ranks, .ref a_sets, .ref a_toldAt, .ref a_line])), (a_text, .inl (cI, 80, .inl ztext)), (a_owners, .inl (cI, 12, .inl zowners_43)), (a_ranks, .inl (cI, 12, .inl zranks_43)), (a_sets, .inl (cI, 12, .inl zsets_43)), (a_toldAt, .inl (cI, 100, .inl ztoldAt_43)), (a_line, .inl (cI, 100, .inl zline_43))] := hD
              refine lv_aload_n hx hb dX4_isRight_100 rfl (lv_at hl 0 rfl) ?_
              obtain ⟨q14, hq15, h⟩ := bd h
              refine kvI (ws' := [(a0, .inr (3, [.ref a_s, .ref a_past, .ref a_kept, .int zisKept, .int zpasts, .ref a_text, .int ztyped, .ref a_measure, .int zmost1, .int zmost3, .int zmost5, .ref a_chosen, .ref a_ways, .int q14.2.1, .int q14.2.2.1, .int q14.2.2.2.1, .ref a_owners, .ref a_ranks, .ref a_sets, .ref a_toldAt, .ref a_line])), (a_text, .inl (cI, 80, .inl ztext)), (a_owners, .inl (cI, 12, .inl q14.2.2.2.2.1)), (a_ranks, .inl (cI, 12, .inl q14.2.2.2.2.2.1)), (a_sets, .inl (cI, 12, .inl q14.2.2.2.2.2.2.1)), (a_toldAt, .inl (cI, 100, .inl q14.2.2.2.2.2.2.2.1)), (a_line, .inl (cI, 100, .inl q14.2.2.2.2.2.2.2.2))]) (wr := []) (As := []) F (c_X4_readsPlace l D cI cC cH a0 a_s a_past a_kept a_text a_measure a_chosen a_ways a_owners a_ranks a_sets a_toldAt a_line N zisKept zpasts ztext ztyped zmost1 zmost3 zmost5 (zspot_43 + 1) zreason_43 zplaces_43 zowners_43 zranks_43 zsets_43 ztoldAt_43 zline_43 q14 hq15) yfX4_readsPlace ⟨wd3_152, wd3_154, wdp_38⟩ hP hD hS [0, 1, 2, 3, 4, 5, 6] [] [0, 1, 2, 3, 4, 5, 6] rfl rfl (by decide) (by decide) (by decide) rfl (by decide) 0 3 rfl rfl rfl ⟨Nat.le_of_ble_eq_true rfl, Nat.le_of_ble_eq_true rfl, Nat.zero_le _, Nat.zero_le _⟩ rfl hl rfl (Nat.le_of_ble_eq_true rfl) dX4_isRight_101 (fun H locs hP hD hS => ?_)
              refine lv_istore_n (lv' := [(1, .int q14.1), (0, .ref a0)]) hx hb dX4_isRight_104 rfl hl (by decide) rfl (fun ls hl => ?_)
              refine lv_goto (tgt := 43) hx hb dX4_isRight_105 (by decide) ?_
              exact ih_43 q14.1 q14.2.1 q14.2.2.1 q14.2.2.2.1 q14.2.2.2.2.1 q14.2.2.2.2.2.1 q14.2.2.2.2.2.2.1 q14.2.2.2.2.2.2.2.1 q14.2.2.2.2.2.2.2.2 _ h J_43 hr_43 _ _ _ (lv_sub hl [1, 0] rfl) hP hD hS
            · have h := itT h c13
              refine lv_aload_n hx hb dX4_isRight_84 rfl (lv_at hl 0 rfl) ?_
              refine lv_iconst (v := 4) hx hb dX4_isRight_85 (by decide) ?_
              obtain ⟨q16, hq17, h⟩ := bd h
              refine kvI (ws' := [(a0, .inr (3, [.ref a_s, .ref a_past, .ref a_kept, .int zisKept, .int zpasts, .ref a_text, .int ztyped, .ref a_measure, .int zmost1, .int zmost3, .int zmost5, .ref a_chosen, .ref a_ways, .int zspot_43, .int q16.2, .int zplaces_43, .ref a_owners, .ref a_ranks, .ref a_sets, .ref a_toldAt, .ref a_line])), (a_text, .inl (cI, 80, .inl ztext)), (a_owners, .inl (cI, 12, .inl zowners_43)), (a_ranks, .inl (cI, 12, .inl zranks_43)), (a_sets, .inl (cI, 12, .inl zsets_43)), (a_toldAt, .inl (cI, 100, .inl ztoldAt_43)), (a_line, .inl (cI, 100, .inl zline_43))]) (wr := [(a_text, .inl (cI, 80, .inl ztext)), (a_owners, .inl (cI, 12, .inl zowners_43)), (a_ranks, .inl (cI, 12, .inl zranks_43)), (a_sets, .inl (cI, 12, .inl zsets_43)), (a_toldAt, .inl (cI, 100, .inl ztoldAt_43)), (a_line, .inl (cI, 100, .inl zline_43))]) (As := [.int 4]) F (c_X4_fails l D cI cC cH a0 a_s a_past a_kept a_text a_measure a_chosen a_ways a_owners a_ranks a_sets a_toldAt a_line N 4 zisKept zpasts ztyped zmost1 zmost3 zmost5 zspot_43 zreason_43 zplaces_43 q16 hq17) yfX4_fails ⟨wd3_160, wd3_162, wdp_40⟩ hP hD hS [0] [1, 2, 3, 4, 5, 6] [6, 0, 1, 2, 3, 4, 5] rfl rfl (by decide) (by decide) (by decide) rfl (by decide) 0 3 rfl rfl rfl ⟨Nat.le_of_ble_eq_true rfl, Nat.le_of_ble_eq_true rfl, Nat.zero_le _, Nat.zero_le _⟩ rfl hl rfl (Nat.le_of_ble_eq_true rfl) dX4_isRight_86 (fun H locs hP hD hS => ?_)
              obtain ⟨g18, h⟩ := chk_s h
              obtain rfl := Option.some.inj h
              obtain rfl := hr_43 _ rfl
              exact hret _ _ _ _ _ (isZ_n g18) rfl hP hD hS dX4_isRight_89
          · have h := itT h c12
            refine lv_aload_n hx hb dX4_isRight_69 rfl (lv_at hl 0 rfl) ?_
            refine lv_iconst (v := 1) hx hb dX4_isRight_70 (by decide) ?_
            obtain ⟨q19, hq20, h⟩ := bd h
            refine kvI (ws' := [(a0, .inr (3, [.ref a_s, .ref a_past, .ref a_kept, .int zisKept, .int zpasts, .ref a_text, .int ztyped, .ref a_measure, .int zmost1, .int zmost3, .int zmost5, .ref a_chosen, .ref a_ways, .int zspot_43, .int q19.2, .int zplaces_43, .ref a_owners, .ref a_ranks, .ref a_sets, .ref a_toldAt, .ref a_line])), (a_text, .inl (cI, 80, .inl ztext)), (a_owners, .inl (cI, 12, .inl zowners_43)), (a_ranks, .inl (cI, 12, .inl zranks_43)), (a_sets, .inl (cI, 12, .inl zsets_43)), (a_toldAt, .inl (cI, 100, .inl ztoldAt_43)), (a_line, .inl (cI, 100, .inl zline_43))]) (wr := [(a_text, .inl (cI, 80, .inl ztext)), (a_owners, .inl (cI, 12, .inl zowners_43)), (a_ranks, .inl (cI, 12, .inl zranks_43)), (a_sets, .inl (cI, 12, .inl zsets_43)), (a_toldAt, .inl (cI, 100, .inl ztoldAt_43)), (a_line, .inl (cI, 100, .inl zline_43))]) (As := [.int 1]) F (c_X4_fails l D cI cC cH a0 a_s a_past a_kept a_text a_measure a_chosen a_ways a_owners a_ranks a_sets a_toldAt a_line N 1 zisKept zpasts ztyped zmost1 zmost3 zmost5 zspot_43 zreason_43 zplaces_43 q19 hq20) yfX4_fails ⟨wd3_160, wd3_162, wdp_40⟩ hP hD hS [0] [1, 2, 3, 4, 5, 6] [6, 0, 1, 2, 3, 4, 5] rfl rfl (by decide) (by decide) (by decide) rfl (by decide) 0 3 rfl rfl rfl ⟨Nat.le_of_ble_eq_true rfl, Nat.le_of_ble_eq_true rfl, Nat.zero_le _, Nat.zero_le _⟩ rfl hl rfl (Nat.le_of_ble_eq_true rfl) dX4_isRight_71 (fun H locs hP hD hS => ?_)
            obtain ⟨g21, h⟩ := chk_s h
            obtain rfl := Option.some.inj h
            obtain rfl := hr_43 _ rfl
            exact hret _ _ _ _ _ (isZ_n g21) rfl hP hD hS dX4_isRight_74
  obtain ⟨q24, hb30, h⟩ := bd h
  have hr31 : ∀ r9, q24 = .inl r9 → r9 = y := by
    intro r9 e9
    rw [e9] at h
    exact Option.some.inj h
  refine L_43 N q6.1 q6.2.1 q6.2.2.1 q6.2.2.2.1 q6.2.2.2.2.1 q6.2.2.2.2.2.1 q6.2.2.2.2.2.2.1 q6.2.2.2.2.2.2.2.1 q6.2.2.2.2.2.2.2.2 q24 hb30 ?_ hr31 _ _ _ (lv_sub hl [1, 0] rfl) hP hD hS
  intro t25 e9 ls H locs hl hP hD hS
  rw [e9] at h
  have h := sm_r h
  refine lv_iload_n hx hb dX4_isRight_108 rfl (lv_at hl 1 rfl) ?_
  refine lv_if_eq (tgt := 123) hx hb dX4_isRight_109 (by decide) (fun c26 => ?_) (fun c26 => ?_)
  · have h := itT h c26
    refine lv_iconst (v := 0) hx hb dX4_isRight_123 (by decide) ?_
    obtain rfl := Option.some.inj h
    exact hret _ _ _ _ _ rfl rfl hP hD hS dX4_isRight_124
  · have h := itF h c26
    refine lv_aload_n hx hb dX4_isRight_112 rfl (lv_at hl 0 rfl) ?_
    obtain ⟨q27, hq28, h⟩ := bd h
    refine kvI (ws' := [(a0, .inr (3, [.ref a_s, .ref a_past, .ref a_kept, .int zisKept, .int zpasts, .ref a_text, .int ztyped, .ref a_measure, .int zmost1, .int zmost3, .int zmost5, .ref a_chosen, .ref a_ways, .int q27.2.1, .int q27.2.2, .int t25.2.2.2.1, .ref a_owners, .ref a_ranks, .ref a_sets, .ref a_toldAt, .ref a_line])), (a_text, .inl (cI, 80, .inl ztext)), (a_owners, .inl (cI, 12, .inl t25.2.2.2.2.1)), (a_ranks, .inl (cI, 12, .inl t25.2.2.2.2.2.1)), (a_sets, .inl (cI, 12, .inl t25.2.2.2.2.2.2.1)), (a_toldAt, .inl (cI, 100, .inl t25.2.2.2.2.2.2.2.1)), (a_line, .inl (cI, 100, .inl t25.2.2.2.2.2.2.2.2))]) (wr := [(a_text, .inl (cI, 80, .inl ztext)), (a_owners, .inl (cI, 12, .inl t25.2.2.2.2.1)), (a_ranks, .inl (cI, 12, .inl t25.2.2.2.2.2.1)), (a_sets, .inl (cI, 12, .inl t25.2.2.2.2.2.2.1)), (a_line, .inl (cI, 100, .inl t25.2.2.2.2.2.2.2.2))]) (As := []) F (c_X4_areThere l D cI cC cH a0 a_s a_past a_kept a_text a_measure a_chosen a_ways a_owners a_ranks a_sets a_toldAt a_line N zisKept zpasts ztyped zmost1 zmost3 zmost5 t25.2.1 t25.2.2.1 t25.2.2.2.1 t25.2.2.2.2.2.2.2.1 q27 hq28) yfX4_areThere ⟨wd3_168, wd3_170, wdp_42⟩ hP hD hS [0, 5] [1, 2, 3, 4, 6] [5, 0, 1, 2, 3, 6, 4] rfl rfl (by decide) (by decide) (by decide) rfl (by decide) 0 3 rfl rfl rfl ⟨Nat.le_of_ble_eq_true rfl, Nat.le_of_ble_eq_true rfl, Nat.zero_le _, Nat.zero_le _⟩ rfl hl rfl (Nat.le_of_ble_eq_true rfl) dX4_isRight_113 (fun H locs hP hD hS => ?_)
    refine lv_if_eq (tgt := 123) hx hb dX4_isRight_116 (by decide) (fun c29 => ?_) (fun c29 => ?_)
    · have h := itT h c29
      refine lv_iconst (v := 0) hx hb dX4_isRight_123 (by decide) ?_
      obtain rfl := Option.some.inj h
      exact hret _ _ _ _ _ rfl rfl hP hD hS dX4_isRight_124
    · have h := itF h c29
      refine lv_iconst (v := 1) hx hb dX4_isRight_119 (by decide) ?_
      refine lv_goto (tgt := 124) hx hb dX4_isRight_120 (by decide) ?_
      obtain rfl := Option.some.inj h
      exact hret _ _ _ _ _ rfl rfl hP hD hS dX4_isRight_124
def f_X4_fault (N : Nat) (x1 : Int32) (ztext : Nat → Int32) (ztyped : Int32) (zspot : Int32) (zreason : Int32) (zplaces : Int32) (zowners : Nat → Int32) (zranks : Nat → Int32) (zsets : Nat → Int32) (ztoldAt : Nat → Int32) (zline : Nat → Int32) : Option (Int32 × Int32 × Int32 × Int32 × (Nat → Int32) × (Nat → Int32) × (Nat → Int32) × (Nat → Int32) × (Nat → Int32)) :=
    Option.bind (f_X4_in N x1 0 1) (fun q1 => if q1 = 0 then (some ((-1), zspot, zreason, zplaces, zowners, zranks, zsets, ztoldAt, zline)) else (Option.bind (f_X4_isRight N ztext ztyped zspot zreason zplaces zowners zranks zsets ztoldAt zline) (fun q4 => if q4.1 = 0 then (if x1 = 0 then (some (q4.2.1, q4.2.1, q4.2.2.1, q4.2.2.2.1, q4.2.2.2.2.1, q4.2.2.2.2.2.1, q4.2.2.2.2.2.2.1, q4.2.2.2.2.2.2.2.1, q4.2.2.2.2.2.2.2.2)) else (some (q4.2.2.1, q4.2.1, q4.2.2.1, q4.2.2.2.1, q4.2.2.2.2.1, q4.2.2.2.2.2.1, q4.2.2.2.2.2.2.1, q4.2.2.2.2.2.2.2.1, q4.2.2.2.2.2.2.2.2))) else (some ((-4), q4.2.1, q4.2.2.1, q4.2.2.2.1, q4.2.2.2.2.1, q4.2.2.2.2.2.1, q4.2.2.2.2.2.2.1, q4.2.2.2.2.2.2.2.1, q4.2.2.2.2.2.2.2.2)))))
set_option maxHeartbeats 4000000 in
set_option maxRecDepth 100000 in
theorem c_X4_fault (l : Launch) (D : va_G) (cI cC cH : ClassId) (a0 : Nat) (a_s : Nat) (a_past : Nat) (a_kept : Nat) (a_text : Nat) (a_measure : Nat) (a_chosen : Nat) (a_ways : Nat) (a_owners : Nat) (a_ranks : Nat) (a_sets : Nat) (a_toldAt : Nat) (a_line : Nat) (N : Nat) (x1 : Int32) (zisKept : Int32) (zpasts : Int32) (ztext : Nat → Int32) (ztyped : Int32) (zmost1 : Int32) (zmost3 : Int32) (zmost5 : Int32) (zspot : Int32) (zreason : Int32) (zplaces : Int32) (zowners : Nat → Int32) (zranks : Nat → Int32) (zsets : Nat → Int32) (ztoldAt : Nat → Int32) (zline : Nat → Int32) (y : Int32 × Int32 × Int32 × Int32 × (Nat → Int32) × (Nat → Int32) × (Nat → Int32) × (Nat → Int32) × (Nat → Int32)) (h : f_X4_fault N x1 ztext ztyped zspot zreason zplaces zowners zranks zsets ztoldAt zline = some y) : CTi l yX4_fault cX4_fault 2 (some .int) 5 109 D (tyL cI cC cH) [.ref a0, .int x1] [(a0, .inr (3, [.ref a_s, .ref a_past, .ref a_kept, .int zisKept, .int zpasts, .ref a_text, .int ztyped, .ref a_measure, .int zmost1, .int zmost3, .int zmost5, .ref a_chosen, .ref a_ways, .int zspot, .int zreason, .int zplaces, .ref a_owners, .ref a_ranks, .ref a_sets, .ref a_toldAt, .ref a_line])), (a_text, .inl (cI, 80, .inl ztext)), (a_owners, .inl (cI, 12, .inl zowners)), (a_ranks, .inl (cI, 12, .inl zranks)), (a_sets, .inl (cI, 12, .inl zsets)), (a_toldAt, .inl (cI, 100, .inl ztoldAt)), (a_line, .inl (cI, 100, .inl zline))] [(a0, .inr (3, [.ref a_s, .ref a_past, .ref a_kept, .int zisKept, .int zpasts, .ref a_text, .int ztyped, .ref a_measure, .int zmost1, .int zmost3, .int zmost5, .ref a_chosen, .ref a_ways, .int y.2.1, .int y.2.2.1, .int y.2.2.2.1, .ref a_owners, .ref a_ranks, .ref a_sets, .ref a_toldAt, .ref a_line])), (a_text, .inl (cI, 80, .inl ztext)), (a_owners, .inl (cI, 12, .inl y.2.2.2.2.1)), (a_ranks, .inl (cI, 12, .inl y.2.2.2.2.2.1)), (a_sets, .inl (cI, 12, .inl y.2.2.2.2.2.2.1)), (a_toldAt, .inl (cI, 100, .inl y.2.2.2.2.2.2.2.1)), (a_line, .inl (cI, 100, .inl y.2.2.2.2.2.2.2.2))] y.1 := by
  unfold f_X4_fault at h
  refine ctI (by decide) (Nat.le_of_ble_eq_true rfl) ?_
  intro p e s m args below meth c A Q ls F hret hP hD hS hl
  have hx := F.1
  have hb := F.2.1
  have hown : s.vm.findClass RX4 = some m.cls := F.2.2.2.1
  have hts := F.2.2.2.2.1
  have hN := F.2.2.2.2.2.1
  have hK := F.2.2.2.2.2.2.1
  have hl : lv_has ls 2 [(0, .ref a0), (1, .int x1)] := hl
  refine lv_iload_n hx hb dX4_fault_0 rfl (lv_at hl 1 rfl) ?_
  refine lv_iconst (v := 0) hx hb dX4_fault_1 (by decide) ?_
  refine lv_iconst (v := 1) hx hb dX4_fault_2 (by decide) ?_
  obtain ⟨q1, hq2, h⟩ := bd h
  refine ks0 (As := [.int x1, .int 0, .int 1]) F (c_X4_in l D cI cC cH  N x1 0 1 q1 hq2) yfX4_in ⟨wd2_220, wd2_221⟩ hP hD hS ⟨Nat.le_of_ble_eq_true rfl, Nat.le_of_ble_eq_true rfl, Nat.zero_le _, Nat.zero_le _⟩ rfl hl rfl (Nat.le_of_ble_eq_true rfl) dX4_fault_3 (fun H locs hP hD hS => ?_)
  refine lv_if_ne (tgt := 11) hx hb dX4_fault_6 (by decide) (fun c3 => ?_) (fun c3 => ?_)
  · have h := itF h c3
    refine lv_aload_n hx hb dX4_fault_11 rfl (lv_at hl 0 rfl) ?_
    obtain ⟨q4, hq5, h⟩ := bd h
    refine kvI (ws' := [(a0, .inr (3, [.ref a_s, .ref a_past, .ref a_kept, .int zisKept, .int zpasts, .ref a_text, .int ztyped, .ref a_measure, .int zmost1, .int zmost3, .int zmost5, .ref a_chosen, .ref a_ways, .int q4.2.1, .int q4.2.2.1, .int q4.2.2.2.1, .ref a_owners, .ref a_ranks, .ref a_sets, .ref a_toldAt, .ref a_line])), (a_text, .inl (cI, 80, .inl ztext)), (a_owners, .inl (cI, 12, .inl q4.2.2.2.2.1)), (a_ranks, .inl (cI, 12, .inl q4.2.2.2.2.2.1)), (a_sets, .inl (cI, 12, .inl q4.2.2.2.2.2.2.1)), (a_toldAt, .inl (cI, 100, .inl q4.2.2.2.2.2.2.2.1)), (a_line, .inl (cI, 100, .inl q4.2.2.2.2.2.2.2.2))]) (wr := []) (As := []) F (c_X4_isRight l D cI cC cH a0 a_s a_past a_kept a_text a_measure a_chosen a_ways a_owners a_ranks a_sets a_toldAt a_line N zisKept zpasts ztext ztyped zmost1 zmost3 zmost5 zspot zreason zplaces zowners zranks zsets ztoldAt zline q4 hq5) yfX4_isRight ⟨wd3_148, wd3_150, wdp_37⟩ hP hD hS [0, 1, 2, 3, 4, 5, 6] [] [0, 1, 2, 3, 4, 5, 6] rfl rfl (by decide) (by decide) (by decide) rfl (by decide) 0 3 rfl rfl rfl ⟨Nat.le_of_ble_eq_true rfl, Nat.le_of_ble_eq_true rfl, Nat.zero_le _, Nat.zero_le _⟩ rfl hl rfl (Nat.le_of_ble_eq_true rfl) dX4_fault_12 (fun H locs hP hD hS => ?_)
    refine lv_if_eq (tgt := 23) hx hb dX4_fault_15 (by decide) (fun c6 => ?_) (fun c6 => ?_)
    · have h := itT h c6
      refine lv_iload_n hx hb dX4_fault_23 rfl (lv_at hl 1 rfl) ?_
      refine lv_if_ne (tgt := 34) hx hb dX4_fault_24 (by decide) (fun c7 => ?_) (fun c7 => ?_)
      · have h := itF h c7
        refine lv_aload_n hx hb dX4_fault_34 rfl (lv_at hl 0 rfl) ?_
        refine va_get (D := D) (ci := 3) (v := .int q4.2.2.1) (C := RX4) (T := TX4) (N := 21) hx hb hts inG4 hown hK hP 0 rfl rfl 14 (by decide) (hts _ wd2_166) (fun _ h9 => h9) rfl dX4_fault_35 ?_
        obtain rfl := Option.some.inj h
        exact hret _ _ _ _ _ rfl hP hD hS dX4_fault_38
      · have h := itT h c7
        refine lv_aload_n hx hb dX4_fault_27 rfl (lv_at hl 0 rfl) ?_
        refine va_get (D := D) (ci := 3) (v := .int q4.2.1) (C := RX4) (T := TX4) (N := 21) hx hb hts inG4 hown hK hP 0 rfl rfl 13 (by decide) (hts _ wd2_165) (fun _ h9 => h9) rfl dX4_fault_28 ?_
        refine lv_goto (tgt := 38) hx hb dX4_fault_31 (by decide) ?_
        obtain rfl := Option.some.inj h
        exact hret _ _ _ _ _ rfl hP hD hS dX4_fault_38
    · have h := itF h c6
      refine lv_bipush (v := (-4)) hx hb dX4_fault_18 (by decide) ?_
      refine lv_goto (tgt := 38) hx hb dX4_fault_20 (by decide) ?_
      obtain rfl := Option.some.inj h
      exact hret _ _ _ _ _ rfl hP hD hS dX4_fault_38
  · have h := itT h c3
    refine lv_iconst (v := (-1)) hx hb dX4_fault_9 (by decide) ?_
    obtain rfl := Option.some.inj h
    exact hret _ _ _ _ _ rfl hP hD hS dX4_fault_10
def f_X4_read_L26 (N : Nat) (zplaces_26 : Int32) (zowners_26 : Nat → Int32) (zranks_26 : Nat → Int32) (zsets_26 : Nat → Int32) : Nat → Int32 → (Nat → Int32) → Option ((Nat → Int32))
  | 0, _, _ => none
  | n_26 + 1, x1_26, zs_26 =>
    if zplaces_26 ≤ x1_26 then (some zs_26) else (chk (gi x1_26 12) (chk (gi (1 + x1_26) 37) (chk (gi x1_26 12) (chk (gi (13 + x1_26) 37) (chk (gi x1_26 12) (chk (gi (25 + x1_26) 37) (f_X4_read_L26 N zplaces_26 zowners_26 zranks_26 zsets_26 n_26 (x1_26 + 1) (upd (upd (upd zs_26 (Int32.toNatClampNeg (1 + x1_26)) (zowners_26 (Int32.toNatClampNeg x1_26))) (Int32.toNatClampNeg (13 + x1_26)) (zranks_26 (Int32.toNatClampNeg x1_26))) (Int32.toNatClampNeg (25 + x1_26)) (zsets_26 (Int32.toNatClampNeg x1_26))))))))))
def f_X4_read (N : Nat) (zs : Nat → Int32) (zpast : Nat → Int32) (zpasts : Int32) (ztext : Nat → Int32) (ztyped : Int32) (zspot : Int32) (zreason : Int32) (zplaces : Int32) (zowners : Nat → Int32) (zranks : Nat → Int32) (zsets : Nat → Int32) (ztoldAt : Nat → Int32) (zline : Nat → Int32) : Option (Int32 × (Nat → Int32) × (Nat → Int32) × Int32 × Int32 × Int32 × Int32 × (Nat → Int32) × (Nat → Int32) × (Nat → Int32) × (Nat → Int32) × (Nat → Int32)) :=
    Option.bind (f_X4_isRight N ztext ztyped zspot zreason zplaces zowners zranks zsets ztoldAt zline) (fun q1 => if q1.1 = 0 then (some ((-2), zs, zpast, zpasts, q1.2.1, q1.2.2.1, q1.2.2.2.1, q1.2.2.2.2.1, q1.2.2.2.2.2.1, q1.2.2.2.2.2.2.1, q1.2.2.2.2.2.2.2.1, q1.2.2.2.2.2.2.2.2)) else (Option.bind (f_X4_changes N zs zpast zpasts) (fun q4 => chk (gi 0 37) (Option.bind (f_X4_read_L26 N q1.2.2.2.1 q1.2.2.2.2.1 q1.2.2.2.2.2.1 q1.2.2.2.2.2.2.1 N 0 (upd zs (Int32.toNatClampNeg 0) q1.2.2.2.1)) (fun q15 => some (q1.2.2.2.1, q15, q4.1, q4.2, q1.2.1, q1.2.2.1, q1.2.2.2.1, q1.2.2.2.2.1, q1.2.2.2.2.2.1, q1.2.2.2.2.2.2.1, q1.2.2.2.2.2.2.2.1, q1.2.2.2.2.2.2.2.2))))))
set_option maxHeartbeats 4000000 in
set_option maxRecDepth 100000 in
theorem c_X4_read (l : Launch) (D : va_G) (cI cC cH : ClassId) (a0 : Nat) (a_s : Nat) (a_past : Nat) (a_kept : Nat) (a_text : Nat) (a_measure : Nat) (a_chosen : Nat) (a_ways : Nat) (a_owners : Nat) (a_ranks : Nat) (a_sets : Nat) (a_toldAt : Nat) (a_line : Nat) (N : Nat) (zs : Nat → Int32) (zpast : Nat → Int32) (zisKept : Int32) (zpasts : Int32) (ztext : Nat → Int32) (ztyped : Int32) (zmost1 : Int32) (zmost3 : Int32) (zmost5 : Int32) (zspot : Int32) (zreason : Int32) (zplaces : Int32) (zowners : Nat → Int32) (zranks : Nat → Int32) (zsets : Nat → Int32) (ztoldAt : Nat → Int32) (zline : Nat → Int32) (y : Int32 × (Nat → Int32) × (Nat → Int32) × Int32 × Int32 × Int32 × Int32 × (Nat → Int32) × (Nat → Int32) × (Nat → Int32) × (Nat → Int32) × (Nat → Int32)) (h : f_X4_read N zs zpast zpasts ztext ztyped zspot zreason zplaces zowners zranks zsets ztoldAt zline = some y) : CTi l yX4_read cX4_read 2 (some .int) 5 109 D (tyL cI cC cH) [.ref a0] [(a0, .inr (3, [.ref a_s, .ref a_past, .ref a_kept, .int zisKept, .int zpasts, .ref a_text, .int ztyped, .ref a_measure, .int zmost1, .int zmost3, .int zmost5, .ref a_chosen, .ref a_ways, .int zspot, .int zreason, .int zplaces, .ref a_owners, .ref a_ranks, .ref a_sets, .ref a_toldAt, .ref a_line])), (a_s, .inl (cI, 37, .inl zs)), (a_past, .inl (cI, 148, .inl zpast)), (a_text, .inl (cI, 80, .inl ztext)), (a_owners, .inl (cI, 12, .inl zowners)), (a_ranks, .inl (cI, 12, .inl zranks)), (a_sets, .inl (cI, 12, .inl zsets)), (a_toldAt, .inl (cI, 100, .inl ztoldAt)), (a_line, .inl (cI, 100, .inl zline))] [(a0, .inr (3, [.ref a_s, .ref a_past, .ref a_kept, .int zisKept, .int y.2.2.2.1, .ref a_text, .int ztyped, .ref a_measure, .int zmost1, .int zmost3, .int zmost5, .ref a_chosen, .ref a_ways, .int y.2.2.2.2.1, .int y.2.2.2.2.2.1, .int y.2.2.2.2.2.2.1, .ref a_owners, .ref a_ranks, .ref a_sets, .ref a_toldAt, .ref a_line])), (a_s, .inl (cI, 37, .inl y.2.1)), (a_past, .inl (cI, 148, .inl y.2.2.1)), (a_text, .inl (cI, 80, .inl ztext)), (a_owners, .inl (cI, 12, .inl y.2.2.2.2.2.2.2.1)), (a_ranks, .inl (cI, 12, .inl y.2.2.2.2.2.2.2.2.1)), (a_sets, .inl (cI, 12, .inl y.2.2.2.2.2.2.2.2.2.1)), (a_toldAt, .inl (cI, 100, .inl y.2.2.2.2.2.2.2.2.2.2.1)), (a_line, .inl (cI, 100, .inl y.2.2.2.2.2.2.2.2.2.2.2))] y.1 := by
  unfold f_X4_read at h
  refine ctI (by decide) (Nat.le_of_ble_eq_true rfl) ?_
  intro p e s m args below meth c A Q ls F hret hP hD hS hl
  have hx := F.1
  have hb := F.2.1
  have hown : s.vm.findClass RX4 = some m.cls := F.2.2.2.1
  have hts := F.2.2.2.2.1
  have hN := F.2.2.2.2.2.1
  have hK := F.2.2.2.2.2.2.1
  have hl : lv_has ls 2 [(0, .ref a0)] := hl
  refine lv_aload_n hx hb dX4_read_0 rfl (lv_at hl 0 rfl) ?_
  obtain ⟨q1, hq2, h⟩ := bd h
  refine kvI (ws' := [(a0, .inr (3, [.ref a_s, .ref a_past, .ref a_kept, .int zisKept, .int zpasts, .ref a_text, .int ztyped, .ref a_measure, .int zmost1, .int zmost3, .int zmost5, .ref a_chosen, .ref a_ways, .int q1.2.1, .int q1.2.2.1, .int q1.2.2.2.1, .ref a_owners, .ref a_ranks, .ref a_sets, .ref a_toldAt, .ref a_line])), (a_s, .inl (cI, 37, .inl zs)), (a_past, .inl (cI, 148, .inl zpast)), (a_text, .inl (cI, 80, .inl ztext)), (a_owners, .inl (cI, 12, .inl q1.2.2.2.2.1)), (a_ranks, .inl (cI, 12, .inl q1.2.2.2.2.2.1)), (a_sets, .inl (cI, 12, .inl q1.2.2.2.2.2.2.1)), (a_toldAt, .inl (cI, 100, .inl q1.2.2.2.2.2.2.2.1)), (a_line, .inl (cI, 100, .inl q1.2.2.2.2.2.2.2.2))]) (wr := [(a_s, .inl (cI, 37, .inl zs)), (a_past, .inl (cI, 148, .inl zpast))]) (As := []) F (c_X4_isRight l D cI cC cH a0 a_s a_past a_kept a_text a_measure a_chosen a_ways a_owners a_ranks a_sets a_toldAt a_line N zisKept zpasts ztext ztyped zmost1 zmost3 zmost5 zspot zreason zplaces zowners zranks zsets ztoldAt zline q1 hq2) yfX4_isRight ⟨wd3_148, wd3_150, wdp_37⟩ hP hD hS [0, 3, 4, 5, 6, 7, 8] [1, 2] [2, 0, 1, 3, 4, 5, 6, 7, 8] rfl rfl (by decide) (by decide) (by decide) rfl (by decide) 0 3 rfl rfl rfl ⟨Nat.le_of_ble_eq_true rfl, Nat.le_of_ble_eq_true rfl, Nat.zero_le _, Nat.zero_le _⟩ rfl hl rfl (Nat.le_of_ble_eq_true rfl) dX4_read_1 (fun H locs hP hD hS => ?_)
  refine lv_if_ne (tgt := 10) hx hb dX4_read_4 (by decide) (fun c3 => ?_) (fun c3 => ?_)
  · have h := itF h c3
    refine lv_aload_n hx hb dX4_read_10 rfl (lv_at hl 0 rfl) ?_
    obtain ⟨q4, hq5, h⟩ := bd h
    refine kvV (ws' := [(a0, .inr (3, [.ref a_s, .ref a_past, .ref a_kept, .int zisKept, .int q4.2, .ref a_text, .int ztyped, .ref a_measure, .int zmost1, .int zmost3, .int zmost5, .ref a_chosen, .ref a_ways, .int q1.2.1, .int q1.2.2.1, .int q1.2.2.2.1, .ref a_owners, .ref a_ranks, .ref a_sets, .ref a_toldAt, .ref a_line])), (a_s, .inl (cI, 37, .inl zs)), (a_past, .inl (cI, 148, .inl q4.1)), (a_text, .inl (cI, 80, .inl ztext)), (a_owners, .inl (cI, 12, .inl q1.2.2.2.2.1)), (a_ranks, .inl (cI, 12, .inl q1.2.2.2.2.2.1)), (a_sets, .inl (cI, 12, .inl q1.2.2.2.2.2.2.1)), (a_toldAt, .inl (cI, 100, .inl q1.2.2.2.2.2.2.2.1)), (a_line, .inl (cI, 100, .inl q1.2.2.2.2.2.2.2.2))]) (wr := [(a_text, .inl (cI, 80, .inl ztext)), (a_owners, .inl (cI, 12, .inl q1.2.2.2.2.1)), (a_ranks, .inl (cI, 12, .inl q1.2.2.2.2.2.1)), (a_sets, .inl (cI, 12, .inl q1.2.2.2.2.2.2.1)), (a_toldAt, .inl (cI, 100, .inl q1.2.2.2.2.2.2.2.1)), (a_line, .inl (cI, 100, .inl q1.2.2.2.2.2.2.2.2))]) (As := []) F (c_X4_changes l D cI cC cH a0 a_s a_past a_kept a_text a_measure a_chosen a_ways a_owners a_ranks a_sets a_toldAt a_line N zs zpast zisKept zpasts ztyped zmost1 zmost3 zmost5 q1.2.1 q1.2.2.1 q1.2.2.2.1 q4 hq5) yfX4_changes ⟨wd2_223, wd2_225, wdp_19⟩ hP hD hS [0, 1, 2] [3, 4, 5, 6, 7, 8] [6, 7, 8, 0, 1, 2, 3, 4, 5] rfl rfl (by decide) (by decide) (by decide) rfl (by decide) 0 3 rfl rfl rfl ⟨Nat.le_of_ble_eq_true rfl, Nat.le_of_ble_eq_true rfl, Nat.zero_le _, Nat.zero_le _⟩ rfl hl rfl (Nat.le_of_ble_eq_true rfl) dX4_read_11 (fun H locs hP hD hS => ?_)
    refine lv_aload_n hx hb dX4_read_14 rfl (lv_at hl 0 rfl) ?_
    refine va_get (D := D) (ci := 3) (v := .ref a_s) (C := RX4) (T := TX4) (N := 21) hx hb hts inG4 hown hK hP 0 rfl rfl 0 (by decide) (hts _ wd2_152) (fun _ h9 => h9) rfl dX4_read_15 ?_
    refine lv_iconst (v := 0) hx hb dX4_read_18 (by decide) ?_
    refine lv_aload_n hx hb dX4_read_19 rfl (lv_at hl 0 rfl) ?_
    refine va_get (D := D) (ci := 3) (v := .int q1.2.2.2.1) (C := RX4) (T := TX4) (N := 21) hx hb hts inG4 hown hK hP 0 rfl rfl 15 (by decide) (hts _ wd2_167) (fun _ h9 => h9) rfl dX4_read_20 ?_
    obtain ⟨g6, h⟩ := chk_s h
    refine va_iast hx hb hK hP hD hS 1 0 rfl rfl (gi_in g6) dX4_read_23 (fun H locs hP hD hS => ?_)
    have hP : va_P D vwCl [(a0, .inr (3, [.ref a_s, .ref a_past, .ref a_kept, .int zisKept, .int q4.2, .ref a_text, .int ztyped, .ref a_measure, .int zmost1, .int zmost3, .int zmost5, .ref a_chosen, .ref a_ways, .int q1.2.1, .int q1.2.2.1, .int q1.2.2.2.1, .ref a_owners, .ref a_ranks, .ref a_sets, .ref a_toldAt, .ref a_line])), (a_s, .inl (cI, 37, .inl (upd zs (Int32.toNatClampNeg 0) q1.2.2.2.1))), (a_past, .inl (cI, 148, .inl q4.1)), (a_text, .inl (cI, 80, .inl ztext)), (a_owners, .inl (cI, 12, .inl q1.2.2.2.2.1)), (a_ranks, .inl (cI, 12, .inl q1.2.2.2.2.2.1)), (a_sets, .inl (cI, 12, .inl q1.2.2.2.2.2.2.1)), (a_toldAt, .inl (cI, 100, .inl q1.2.2.2.2.2.2.2.1)), (a_line, .inl (cI, 100, .inl q1.2.2.2.2.2.2.2.2))] H := hP
    have hD : va_D A [(a0, .inr (3, [.ref a_s, .ref a_past, .ref a_kept, .int zisKept, .int q4.2, .ref a_text, .int ztyped, .ref a_measure, .int zmost1, .int zmost3, .int zmost5, .ref a_chosen, .ref a_ways, .int q1.2.1, .int q1.2.2.1, .int q1.2.2.2.1, .ref a_owners, .ref a_ranks, .ref a_sets, .ref a_toldAt, .ref a_line])), (a_s, .inl (cI, 37, .inl (upd zs (Int32.toNatClampNeg 0) q1.2.2.2.1))), (a_past, .inl (cI, 148, .inl q4.1)), (a_text, .inl (cI, 80, .inl ztext)), (a_owners, .inl (cI, 12, .inl q1.2.2.2.2.1)), (a_ranks, .inl (cI, 12, .inl q1.2.2.2.2.2.1)), (a_sets, .inl (cI, 12, .inl q1.2.2.2.2.2.2.1)), (a_toldAt, .inl (cI, 100, .inl q1.2.2.2.2.2.2.2.1)), (a_line, .inl (cI, 100, .inl q1.2.2.2.2.2.2.2.2))] := hD
    refine lv_iconst (v := 0) hx hb dX4_read_24 (by decide) ?_
    refine lv_istore_n (lv' := [(1, .int 0), (0, .ref a0)]) hx hb dX4_read_25 rfl hl (by decide) rfl (fun ls hl => ?_)
    have L_26 : ∀ (zpast_26 : Nat → Int32) (zisKept_26 : Int32) (zpasts_26 : Int32) (ztext_26 : Nat → Int32) (ztyped_26 : Int32) (zmost1_26 : Int32) (zmost3_26 : Int32) (zmost5_26 : Int32) (zspot_26 : Int32) (zreason_26 : Int32) (zplaces_26 : Int32) (zowners_26 : Nat → Int32) (zranks_26 : Nat → Int32) (zsets_26 : Nat → Int32) (ztoldAt_26 : Nat → Int32) (zline_26 : Nat → Int32), ∀ (n_26 : Nat) (x1_26 : Int32) (zs_26 : Nat → Int32) (q14 : ((Nat → Int32))), f_X4_read_L26 N zplaces_26 zowners_26 zranks_26 zsets_26 n_26 x1_26 zs_26 = some q14 → (∀ (ls : Array Slot) (H : Heap) (locs : List Loc), lv_has ls 2 [(0, .ref a0)] → va_P D vwCl [(a0, .inr (3, [.ref a_s, .ref a_past, .ref a_kept, .int zisKept_26, .int zpasts_26, .ref a_text, .int ztyped_26, .ref a_measure, .int zmost1_26, .int zmost3_26, .int zmost5_26, .ref a_chosen, .ref a_ways, .int zspot_26, .int zreason_26, .int zplaces_26, .ref a_owners, .ref a_ranks, .ref a_sets, .ref a_toldAt, .ref a_line])), (a_s, .inl (cI, 37, .inl q14)), (a_past, .inl (cI, 148, .inl zpast_26)), (a_text, .inl (cI, 80, .inl ztext_26)), (a_owners, .inl (cI, 12, .inl zowners_26)), (a_ranks, .inl (cI, 12, .inl zranks_26)), (a_sets, .inl (cI, 12, .inl zsets_26)), (a_toldAt, .inl (cI, 100, .inl ztoldAt_26)), (a_line, .inl (cI, 100, .inl zline_26))] H → va_D A [(a0, .inr (3, [.ref a_s, .ref a_past, .ref a_kept, .int zisKept_26, .int zpasts_26, .ref a_text, .int ztyped_26, .ref a_measure, .int zmost1_26, .int zmost3_26, .int zmost5_26, .ref a_chosen, .ref a_ways, .int zspot_26, .int zreason_26, .int zplaces_26, .ref a_owners, .ref a_ranks, .ref a_sets, .ref a_toldAt, .ref a_line])), (a_s, .inl (cI, 37, .inl q14)), (a_past, .inl (cI, 148, .inl zpast_26)), (a_text, .inl (cI, 80, .inl ztext_26)), (a_owners, .inl (cI, 12, .inl zowners_26)), (a_ranks, .inl (cI, 12, .inl zranks_26)), (a_sets, .inl (cI, 12, .inl zsets_26)), (a_toldAt, .inl (cI, 100, .inl ztoldAt_26)), (a_line, .inl (cI, 100, .inl zline_26))] → va_S A s.heap H locs → W p l e (rmm 5 109) s m args below meth c H locs 0 0 Q (F0 m 84 ls [])) → ∀ (ls : Array Slot) (H : Heap) (locs : List Loc), lv_has ls 2 [(0, .ref a0), (1, .int x1_26)] → va_P D vwCl [(a0, .inr (3, [.ref a_s, .ref a_past, .ref a_kept, .int zisKept_26, .int zpasts_26, .ref a_text, .int ztyped_26, .ref a_measure, .int zmost1_26, .int zmost3_26, .int zmost5_26, .ref a_chosen, .ref a_ways, .int zspot_26, .int zreason_26, .int zplaces_26, .ref a_owners, .ref a_ranks, .ref a_sets, .ref a_toldAt, .ref a_line])), (a_s, .inl (cI, 37, .inl zs_26)), (a_past, .inl (cI, 148, .inl zpast_26)), (a_text, .inl (cI, 80, .inl ztext_26)), (a_owners, .inl (cI, 12, .inl zowners_26)), (a_ranks, .inl (cI, 12, .inl zranks_26)), (a_sets, .inl (cI, 12, .inl zsets_26)), (a_toldAt, .inl (cI, 100, .inl ztoldAt_26)), (a_line, .inl (cI, 100, .inl zline_26))] H → va_D A [(a0, .inr (3, [.ref a_s, .ref a_past, .ref a_kept, .int zisKept_26, .int zpasts_26, .ref a_text, .int ztyped_26, .ref a_measure, .int zmost1_26, .int zmost3_26, .int zmost5_26, .ref a_chosen, .ref a_ways, .int zspot_26, .int zreason_26, .int zplaces_26, .ref a_owners, .ref a_ranks, .ref a_sets, .ref a_toldAt, .ref a_line])), (a_s, .inl (cI, 37, .inl zs_26)), (a_past, .inl (cI, 148, .inl zpast_26)), (a_text, .inl (cI, 80, .inl ztext_26)), (a_owners, .inl (cI, 12, .inl zowners_26)), (a_ranks, .inl (cI, 12, .inl zranks_26)), (a_sets, .inl (cI, 12, .inl zsets_26)), (a_toldAt, .inl (cI, 100, .inl ztoldAt_26)), (a_line, .inl (cI, 100, .inl zline_26))] → va_S A s.heap H locs → W p l e (rmm 5 109) s m args below meth c H locs 0 0 Q (F0 m 26 ls []) := by
      intro zpast_26 zisKept_26 zpasts_26 ztext_26 ztyped_26 zmost1_26 zmost3_26 zmost5_26 zspot_26 zreason_26 zplaces_26 zowners_26 zranks_26 zsets_26 ztoldAt_26 zline_26 n_26
      induction n_26 with
      | zero => intro x1_26 zs_26 q14 h; exact no_s h
      | succ n_26 ih_26 =>
        intro x1_26 zs_26 q14 h J_26 ls H locs hl hP hD hS
        rw [f_X4_read_L26] at h
        refine lv_iload_n hx hb dX4_read_26 rfl (lv_at hl 1 rfl) ?_
        refine lv_aload_n hx hb dX4_read_27 rfl (lv_at hl 0 rfl) ?_
        refine va_get (D := D) (ci := 3) (v := .int zplaces_26) (C := RX4) (T := TX4) (N := 21) hx hb hts inG4 hown hK hP 0 rfl rfl 15 (by decide) (hts _ wd2_167) (fun _ h9 => h9) rfl dX4_read_28 ?_
        refine lv_icmp_ge (tgt := 84) hx hb dX4_read_31 (by decide) (fun c7 => ?_) (fun c7 => ?_)
        · have h := itT h c7
          obtain rfl := Option.some.inj h
          exact J_26 _ _ _ (lv_sub hl [0] rfl) hP hD hS
        · have h := itF h c7
          refine lv_aload_n hx hb dX4_read_34 rfl (lv_at hl 0 rfl) ?_
          refine va_get (D := D) (ci := 3) (v := .ref a_s) (C := RX4) (T := TX4) (N := 21) hx hb hts inG4 hown hK hP 0 rfl rfl 0 (by decide) (hts _ wd2_152) (fun _ h9 => h9) rfl dX4_read_35 ?_
          refine lv_iconst (v := 1) hx hb dX4_read_38 (by decide) ?_
          refine lv_iload_n hx hb dX4_read_39 rfl (lv_at hl 1 rfl) ?_
          refine lv_iadd hx hb dX4_read_40 ?_
          refine lv_aload_n hx hb dX4_read_41 rfl (lv_at hl 0 rfl) ?_
          refine va_get (D := D) (ci := 3) (v := .ref a_owners) (C := RX4) (T := TX4) (N := 21) hx hb hts inG4 hown hK hP 0 rfl rfl 16 (by decide) (hts _ wd2_168) (fun _ h9 => h9) rfl dX4_read_42 ?_
          refine lv_iload_n hx hb dX4_read_45 rfl (lv_at hl 1 rfl) ?_
          obtain ⟨g8, h⟩ := chk_s h
          refine va_iald hx hb hK hP 4 0 rfl rfl (gi_in g8) dX4_read_46 ?_
          obtain ⟨g9, h⟩ := chk_s h
          refine va_iast hx hb hK hP hD hS 1 0 rfl rfl (gi_in g9) dX4_read_47 (fun H locs hP hD hS => ?_)
          have hP : va_P D vwCl [(a0, .inr (3, [.ref a_s, .ref a_past, .ref a_kept, .int zisKept_26, .int zpasts_26, .ref a_text, .int ztyped_26, .ref a_measure, .int zmost1_26, .int zmost3_26, .int zmost5_26, .ref a_chosen, .ref a_ways, .int zspot_26, .int zreason_26, .int zplaces_26, .ref a_owners, .ref a_ranks, .ref a_sets, .ref a_toldAt, .ref a_line])), (a_s, .inl (cI, 37, .inl (upd zs_26 (Int32.toNatClampNeg (1 + x1_26)) (zowners_26 (Int32.toNatClampNeg x1_26))))), (a_past, .inl (cI, 148, .inl zpast_26)), (a_text, .inl (cI, 80, .inl ztext_26)), (a_owners, .inl (cI, 12, .inl zowners_26)), (a_ranks, .inl (cI, 12, .inl zranks_26)), (a_sets, .inl (cI, 12, .inl zsets_26)), (a_toldAt, .inl (cI, 100, .inl ztoldAt_26)), (a_line, .inl (cI, 100, .inl zline_26))] H := hP
          have hD : va_D A [(a0, .inr (3, [.ref a_s, .ref a_past, .ref a_kept, .int zisKept_26, .int zpasts_26, .ref a_text, .int ztyped_26, .ref a_measure, .int zmost1_26, .int zmost3_26, .int zmost5_26, .ref a_chosen, .ref a_ways, .int zspot_26, .int zreason_26, .int zplaces_26, .ref a_owners, .ref a_ranks, .ref a_sets, .ref a_toldAt, .ref a_line])), (a_s, .inl (cI, 37, .inl (upd zs_26 (Int32.toNatClampNeg (1 + x1_26)) (zowners_26 (Int32.toNatClampNeg x1_26))))), (a_past, .inl (cI, 148, .inl zpast_26)), (a_text, .inl (cI, 80, .inl ztext_26)), (a_owners, .inl (cI, 12, .inl zowners_26)), (a_ranks, .inl (cI, 12, .inl zranks_26)), (a_sets, .inl (cI, 12, .inl zsets_26)), (a_toldAt, .inl (cI, 100, .inl ztoldAt_26)), (a_line, .inl (cI, 100, .inl zline_26))] := hD
          refine lv_aload_n hx hb dX4_read_48 rfl (lv_at hl 0 rfl) ?_
          refine va_get (D := D) (ci := 3) (v := .ref a_s) (C := RX4) (T := TX4) (N := 21) hx hb hts inG4 hown hK hP 0 rfl rfl 0 (by decide) (hts _ wd2_152) (fun _ h9 => h9) rfl dX4_read_49 ?_
          refine lv_bipush (v := 13) hx hb dX4_read_52 (by decide) ?_
          refine lv_iload_n hx hb dX4_read_54 rfl (lv_at hl 1 rfl) ?_
          refine lv_iadd hx hb dX4_read_55 ?_
          refine lv_aload_n hx hb dX4_read_56 rfl (lv_at hl 0 rfl) ?_
          refine va_get (D := D) (ci := 3) (v := .ref a_ranks) (C := RX4) (T := TX4) (N := 21) hx hb hts inG4 hown hK hP 0 rfl rfl 17 (by decide) (hts _ wd2_169) (fun _ h9 => h9) rfl dX4_read_57 ?_
          refine lv_iload_n hx hb dX4_read_60 rfl (lv_at hl 1 rfl) ?_
          obtain ⟨g10, h⟩ := chk_s h
          refine va_iald hx hb hK hP 5 0 rfl rfl (gi_in g10) dX4_read_61 ?_
          obtain ⟨g11, h⟩ := chk_s h
          refine va_iast hx hb hK hP hD hS 1 0 rfl rfl (gi_in g11) dX4_read_62 (fun H locs hP hD hS => ?_)
          have hP : va_P D vwCl [(a0, .inr (3, [.ref a_s, .ref a_past, .ref a_kept, .int zisKept_26, .int zpasts_26, .ref a_text, .int ztyped_26, .ref a_measure, .int zmost1_26, .int zmost3_26, .int zmost5_26, .ref a_chosen, .ref a_ways, .int zspot_26, .int zreason_26, .int zplaces_26, .ref a_owners, .ref a_ranks, .ref a_sets, .ref a_toldAt, .ref a_line])), (a_s, .inl (cI, 37, .inl (upd (upd zs_26 (Int32.toNatClampNeg (1 + x1_26)) (zowners_26 (Int32.toNatClampNeg x1_26))) (Int32.toNatClampNeg (13 + x1_26)) (zranks_26 (Int32.toNatClampNeg x1_26))))), (a_past, .inl (cI, 148, .inl zpast_26)), (a_text, .inl (cI, 80, .inl ztext_26)), (a_owners, .inl (cI, 12, .inl zowners_26)), (a_ranks, .inl (cI, 12, .inl zranks_26)), (a_sets, .inl (cI, 12, .inl zsets_26)), (a_toldAt, .inl (cI, 100, .inl ztoldAt_26)), (a_line, .inl (cI, 100, .inl zline_26))] H := hP
          have hD : va_D A [(a0, .inr (3, [.ref a_s, .ref a_past, .ref a_kept, .int zisKept_26, .int zpasts_26, .ref a_text, .int ztyped_26, .ref a_measure, .int zmost1_26, .int zmost3_26, .int zmost5_26, .ref a_chosen, .ref a_ways, .int zspot_26, .int zreason_26, .int zplaces_26, .ref a_owners, .ref a_ranks, .ref a_sets, .ref a_toldAt, .ref a_line])), (a_s, .inl (cI, 37, .inl (upd (upd zs_26 (Int32.toNatClampNeg (1 + x1_26)) (zowners_26 (Int32.toNatClampNeg x1_26))) (Int32.toNatClampNeg (13 + x1_26)) (zranks_26 (Int32.toNatClampNeg x1_26))))), (a_past, .inl (cI, 148, .inl zpast_26)), (a_text, .inl (cI, 80, .inl ztext_26)), (a_owners, .inl (cI, 12, .inl zowners_26)), (a_ranks, .inl (cI, 12, .inl zranks_26)), (a_sets, .inl (cI, 12, .inl zsets_26)), (a_toldAt, .inl (cI, 100, .inl ztoldAt_26)), (a_line, .inl (cI, 100, .inl zline_26))] := hD
          refine lv_aload_n hx hb dX4_read_63 rfl (lv_at hl 0 rfl) ?_
          refine va_get (D := D) (ci := 3) (v := .ref a_s) (C := RX4) (T := TX4) (N := 21) hx hb hts inG4 hown hK hP 0 rfl rfl 0 (by decide) (hts _ wd2_152) (fun _ h9 => h9) rfl dX4_read_64 ?_
          refine lv_bipush (v := 25) hx hb dX4_read_67 (by decide) ?_
          refine lv_iload_n hx hb dX4_read_69 rfl (lv_at hl 1 rfl) ?_
          refine lv_iadd hx hb dX4_read_70 ?_
          refine lv_aload_n hx hb dX4_read_71 rfl (lv_at hl 0 rfl) ?_
          refine va_get (D := D) (ci := 3) (v := .ref a_sets) (C := RX4) (T := TX4) (N := 21) hx hb hts inG4 hown hK hP 0 rfl rfl 18 (by decide) (hts _ wd2_170) (fun _ h9 => h9) rfl dX4_read_72 ?_
          refine lv_iload_n hx hb dX4_read_75 rfl (lv_at hl 1 rfl) ?_
          obtain ⟨g12, h⟩ := chk_s h
          refine va_iald hx hb hK hP 6 0 rfl rfl (gi_in g12) dX4_read_76 ?_
          obtain ⟨g13, h⟩ := chk_s h
          refine va_iast hx hb hK hP hD hS 1 0 rfl rfl (gi_in g13) dX4_read_77 (fun H locs hP hD hS => ?_)
          have hP : va_P D vwCl [(a0, .inr (3, [.ref a_s, .ref a_past, .ref a_kept, .int zisKept_26, .int zpasts_26, .ref a_text, .int ztyped_26, .ref a_measure, .int zmost1_26, .int zmost3_26, .int zmost5_26, .ref a_chosen, .ref a_ways, .int zspot_26, .int zreason_26, .int zplaces_26, .ref a_owners, .ref a_ranks, .ref a_sets, .ref a_toldAt, .ref a_line])), (a_s, .inl (cI, 37, .inl (upd (upd (upd zs_26 (Int32.toNatClampNeg (1 + x1_26)) (zowners_26 (Int32.toNatClampNeg x1_26))) (Int32.toNatClampNeg (13 + x1_26)) (zranks_26 (Int32.toNatClampNeg x1_26))) (Int32.toNatClampNeg (25 + x1_26)) (zsets_26 (Int32.toNatClampNeg x1_26))))), (a_past, .inl (cI, 148, .inl zpast_26)), (a_text, .inl (cI, 80, .inl ztext_26)), (a_owners, .inl (cI, 12, .inl zowners_26)), (a_ranks, .inl (cI, 12, .inl zranks_26)), (a_sets, .inl (cI, 12, .inl zsets_26)), (a_toldAt, .inl (cI, 100, .inl ztoldAt_26)), (a_line, .inl (cI, 100, .inl zline_26))] H := hP
          have hD : va_D A [(a0, .inr (3, [.ref a_s, .ref a_past, .ref a_kept, .int zisKept_26, .int zpasts_26, .ref a_text, .int ztyped_26, .ref a_measure, .int zmost1_26, .int zmost3_26, .int zmost5_26, .ref a_chosen, .ref a_ways, .int zspot_26, .int zreason_26, .int zplaces_26, .ref a_owners, .ref a_ranks, .ref a_sets, .ref a_toldAt, .ref a_line])), (a_s, .inl (cI, 37, .inl (upd (upd (upd zs_26 (Int32.toNatClampNeg (1 + x1_26)) (zowners_26 (Int32.toNatClampNeg x1_26))) (Int32.toNatClampNeg (13 + x1_26)) (zranks_26 (Int32.toNatClampNeg x1_26))) (Int32.toNatClampNeg (25 + x1_26)) (zsets_26 (Int32.toNatClampNeg x1_26))))), (a_past, .inl (cI, 148, .inl zpast_26)), (a_text, .inl (cI, 80, .inl ztext_26)), (a_owners, .inl (cI, 12, .inl zowners_26)), (a_ranks, .inl (cI, 12, .inl zranks_26)), (a_sets, .inl (cI, 12, .inl zsets_26)), (a_toldAt, .inl (cI, 100, .inl ztoldAt_26)), (a_line, .inl (cI, 100, .inl zline_26))] := hD
          refine lv_iinc (v := x1_26 + 1) (lv' := [(1, .int (x1_26 + 1)), (0, .ref a0)]) hx hb dX4_read_78 hl (k := 1) rfl rfl (by decide) rfl (fun ls hl => ?_)
          refine lv_goto (tgt := 26) hx hb dX4_read_81 (by decide) ?_
          exact ih_26 (x1_26 + 1) (upd (upd (upd zs_26 (Int32.toNatClampNeg (1 + x1_26)) (zowners_26 (Int32.toNatClampNeg x1_26))) (Int32.toNatClampNeg (13 + x1_26)) (zranks_26 (Int32.toNatClampNeg x1_26))) (Int32.toNatClampNeg (25 + x1_26)) (zsets_26 (Int32.toNatClampNeg x1_26))) _ h J_26 _ _ _ (lv_sub hl [1, 0] rfl) hP hD hS
    obtain ⟨q15, hb16, h⟩ := bd h
    refine L_26 q4.1 zisKept q4.2 ztext ztyped zmost1 zmost3 zmost5 q1.2.1 q1.2.2.1 q1.2.2.2.1 q1.2.2.2.2.1 q1.2.2.2.2.2.1 q1.2.2.2.2.2.2.1 q1.2.2.2.2.2.2.2.1 q1.2.2.2.2.2.2.2.2 N 0 (upd zs (Int32.toNatClampNeg 0) q1.2.2.2.1) q15 hb16 ?_ _ _ _ (lv_sub hl [1, 0] rfl) hP hD hS
    intro ls H locs hl hP hD hS
    refine lv_aload_n hx hb dX4_read_84 rfl (lv_at hl 0 rfl) ?_
    refine va_get (D := D) (ci := 3) (v := .int q1.2.2.2.1) (C := RX4) (T := TX4) (N := 21) hx hb hts inG4 hown hK hP 0 rfl rfl 15 (by decide) (hts _ wd2_167) (fun _ h9 => h9) rfl dX4_read_85 ?_
    obtain rfl := Option.some.inj h
    exact hret _ _ _ _ _ rfl hP hD hS dX4_read_88
  · have h := itT h c3
    refine lv_bipush (v := (-2)) hx hb dX4_read_7 (by decide) ?_
    obtain rfl := Option.some.inj h
    exact hret _ _ _ _ _ rfl hP hD hS dX4_read_9
