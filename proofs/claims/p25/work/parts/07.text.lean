def f_X2_append (N : Nat) (x1 : Int32) (zcharacters : Nat → Int32) (zlength : Int32) : Option ((Nat → Int32) × Int32) :=
    if 80 ≤ zlength then (some (zcharacters, zlength)) else (chk (gi zlength 80) (some (upd zcharacters (Int32.toNatClampNeg zlength) (vp_nar .char x1), zlength + 1)))
set_option maxHeartbeats 4000000 in
set_option maxRecDepth 100000 in
theorem c_X2_append (l : Launch) (D : va_G) (cI cC cH : ClassId) (a0 : Nat) (a_characters : Nat) (a_told : Nat) (a_wayNumbers : Nat) (a_wayIndexes : Nat) (N : Nat) (x1 : Int32) (zcharacters : Nat → Int32) (zlength : Int32) (zfaultIndex : Int32) (zfaultReason : Int32) (zat : Int32) (zwayCount : Int32) (y : (Nat → Int32) × Int32) (h : f_X2_append N x1 zcharacters zlength = some y) : CTv l yX2_append cX2_append 2 none 0 0 D (tyL cI cC cH) [.ref a0, .int x1] [(a0, .inr (1, [.ref a_characters, .int zlength, .ref a_told, .int zfaultIndex, .int zfaultReason, .int zat, .ref a_wayNumbers, .ref a_wayIndexes, .int zwayCount])), (a_characters, .inl (cC, 80, .inl zcharacters))] [(a0, .inr (1, [.ref a_characters, .int y.2, .ref a_told, .int zfaultIndex, .int zfaultReason, .int zat, .ref a_wayNumbers, .ref a_wayIndexes, .int zwayCount])), (a_characters, .inl (cC, 80, .inl y.1))] := by
  unfold f_X2_append at h
  refine ctV (by decide) (Nat.le_of_ble_eq_true rfl) ?_
  intro p e s m args below meth c A Q ls F hret hP hD hS hl
  have hx := F.1
  have hb := F.2.1
  have hown : s.vm.findClass RX2 = some m.cls := F.2.2.2.1
  have hts := F.2.2.2.2.1
  have hN := F.2.2.2.2.2.1
  have hK := F.2.2.2.2.2.2.1
  have hl : lv_has ls 2 [(0, .ref a0), (1, .int x1)] := hl
  refine lv_aload_n hx hb dX2_append_0 rfl (lv_at hl 0 rfl) ?_
  refine va_get (D := D) (ci := 1) (v := .int zlength) (C := RX2) (T := TX2) (N := 9) hx hb hts inG2 hown hK hP 0 rfl rfl 1 (by decide) (hts _ wd1_54) (fun _ h9 => h9) rfl dX2_append_1 ?_
  refine lv_bipush (v := 80) hx hb dX2_append_4 (by decide) ?_
  refine lv_icmp_ge (tgt := 29) hx hb dX2_append_6 (by decide) (fun c1 => ?_) (fun c1 => ?_)
  · have h := itT h c1
    obtain rfl := Option.some.inj h
    exact hret _ _ _ _ hP hD hS dX2_append_29
  · have h := itF h c1
    refine lv_aload_n hx hb dX2_append_9 rfl (lv_at hl 0 rfl) ?_
    refine va_get (D := D) (ci := 1) (v := .ref a_characters) (C := RX2) (T := TX2) (N := 9) hx hb hts inG2 hown hK hP 0 rfl rfl 0 (by decide) (hts _ wd1_53) (fun _ h9 => h9) rfl dX2_append_10 ?_
    refine lv_aload_n hx hb dX2_append_13 rfl (lv_at hl 0 rfl) ?_
    refine va_get (D := D) (ci := 1) (v := .int zlength) (C := RX2) (T := TX2) (N := 9) hx hb hts inG2 hown hK hP 0 rfl rfl 1 (by decide) (hts _ wd1_54) (fun _ h9 => h9) rfl dX2_append_14 ?_
    refine lv_iload_n hx hb dX2_append_17 rfl (lv_at hl 1 rfl) ?_
    obtain ⟨g2, h⟩ := chk_s h
    refine va_cast hx hb hK hP hD hS 1 1 rfl rfl (gi_in g2) dX2_append_18 (fun H locs hP hD hS => ?_)
    have hP : va_P D vwCl [(a0, .inr (1, [.ref a_characters, .int zlength, .ref a_told, .int zfaultIndex, .int zfaultReason, .int zat, .ref a_wayNumbers, .ref a_wayIndexes, .int zwayCount])), (a_characters, .inl (cC, 80, .inl (upd zcharacters (Int32.toNatClampNeg zlength) (vp_nar .char x1))))] H := hP
    have hD : va_D A [(a0, .inr (1, [.ref a_characters, .int zlength, .ref a_told, .int zfaultIndex, .int zfaultReason, .int zat, .ref a_wayNumbers, .ref a_wayIndexes, .int zwayCount])), (a_characters, .inl (cC, 80, .inl (upd zcharacters (Int32.toNatClampNeg zlength) (vp_nar .char x1))))] := hD
    refine lv_aload_n hx hb dX2_append_19 rfl (lv_at hl 0 rfl) ?_
    refine lv_dup hx hb dX2_append_20 rfl ?_
    refine va_get (D := D) (ci := 1) (v := .int zlength) (C := RX2) (T := TX2) (N := 9) hx hb hts inG2 hown hK hP 0 rfl rfl 1 (by decide) (hts _ wd1_54) (fun _ h9 => h9) rfl dX2_append_21 ?_
    refine lv_iconst (v := 1) hx hb dX2_append_24 (by decide) ?_
    refine lv_iadd hx hb dX2_append_25 ?_
    refine va_put (D := D) (ci := 1) (v := .int (zlength + 1)) (ty := .int) (C := RX2) (T := TX2) (N := 9) hx hb hts inG2 tyX2 tyX2_ok nmX2 hown hK hP hD hS 0 rfl rfl 1 (by decide) (hts _ wd1_54) (fun _ h9 => h9) rfl (by decide +kernel) rfl rfl (Nat.le_of_ble_eq_true rfl) dX2_append_26 (fun H locs hP hD hS => ?_)
    have hP : va_P D vwCl [(a0, .inr (1, [.ref a_characters, .int (zlength + 1), .ref a_told, .int zfaultIndex, .int zfaultReason, .int zat, .ref a_wayNumbers, .ref a_wayIndexes, .int zwayCount])), (a_characters, .inl (cC, 80, .inl (upd zcharacters (Int32.toNatClampNeg zlength) (vp_nar .char x1))))] H := hP
    have hD : va_D A [(a0, .inr (1, [.ref a_characters, .int (zlength + 1), .ref a_told, .int zfaultIndex, .int zfaultReason, .int zat, .ref a_wayNumbers, .ref a_wayIndexes, .int zwayCount])), (a_characters, .inl (cC, 80, .inl (upd zcharacters (Int32.toNatClampNeg zlength) (vp_nar .char x1))))] := hD
    obtain rfl := Option.some.inj h
    exact hret _ _ _ _ hP hD hS dX2_append_29
def f_X2_character (N : Nat) (zcharacters : Nat → Int32) (zlength : Int32) (zat : Int32) : Option (Int32) :=
    if zat < 0 then (some 0) else (if zlength ≤ zat then (some 0) else (if 80 ≤ zat then (some 0) else (chk (gi zat 80) (chk (isC (zcharacters (Int32.toNatClampNeg zat))) (some (zcharacters (Int32.toNatClampNeg zat)))))))
set_option maxHeartbeats 4000000 in
set_option maxRecDepth 100000 in
theorem c_X2_character (l : Launch) (D : va_G) (cI cC cH : ClassId) (a0 : Nat) (a_characters : Nat) (a_told : Nat) (a_wayNumbers : Nat) (a_wayIndexes : Nat) (N : Nat) (zcharacters : Nat → Int32) (zlength : Int32) (zfaultIndex : Int32) (zfaultReason : Int32) (zat : Int32) (zwayCount : Int32) (y : Int32) (h : f_X2_character N zcharacters zlength zat = some y) : CTi l yX2_character cX2_character 1 (some .char) 0 0 D (tyL cI cC cH) [.ref a0] [(a0, .inr (1, [.ref a_characters, .int zlength, .ref a_told, .int zfaultIndex, .int zfaultReason, .int zat, .ref a_wayNumbers, .ref a_wayIndexes, .int zwayCount])), (a_characters, .inl (cC, 80, .inl zcharacters))] [(a0, .inr (1, [.ref a_characters, .int zlength, .ref a_told, .int zfaultIndex, .int zfaultReason, .int zat, .ref a_wayNumbers, .ref a_wayIndexes, .int zwayCount])), (a_characters, .inl (cC, 80, .inl zcharacters))] y := by
  unfold f_X2_character at h
  refine ctZ (by decide) (Nat.le_of_ble_eq_true rfl) ?_
  intro p e s m args below meth c A Q ls F hret hP hD hS hl
  have hx := F.1
  have hb := F.2.1
  have hown : s.vm.findClass RX2 = some m.cls := F.2.2.2.1
  have hts := F.2.2.2.2.1
  have hN := F.2.2.2.2.2.1
  have hK := F.2.2.2.2.2.2.1
  have hl : lv_has ls 1 [(0, .ref a0)] := hl
  refine lv_aload_n hx hb dX2_character_0 rfl (lv_at hl 0 rfl) ?_
  refine va_get (D := D) (ci := 1) (v := .int zat) (C := RX2) (T := TX2) (N := 9) hx hb hts inG2 hown hK hP 0 rfl rfl 5 (by decide) (hts _ wd1_62) (fun _ h9 => h9) rfl dX2_character_1 ?_
  refine lv_if_lt (tgt := 39) hx hb dX2_character_4 (by decide) (fun c1 => ?_) (fun c1 => ?_)
  · have h := itT h c1
    refine lv_iconst (v := 0) hx hb dX2_character_39 (by decide) ?_
    obtain rfl := Option.some.inj h
    exact hret _ _ _ _ _ rfl rfl hP hD hS dX2_character_40
  · have h := itF h c1
    refine lv_aload_n hx hb dX2_character_7 rfl (lv_at hl 0 rfl) ?_
    refine va_get (D := D) (ci := 1) (v := .int zat) (C := RX2) (T := TX2) (N := 9) hx hb hts inG2 hown hK hP 0 rfl rfl 5 (by decide) (hts _ wd1_62) (fun _ h9 => h9) rfl dX2_character_8 ?_
    refine lv_aload_n hx hb dX2_character_11 rfl (lv_at hl 0 rfl) ?_
    refine va_get (D := D) (ci := 1) (v := .int zlength) (C := RX2) (T := TX2) (N := 9) hx hb hts inG2 hown hK hP 0 rfl rfl 1 (by decide) (hts _ wd1_54) (fun _ h9 => h9) rfl dX2_character_12 ?_
    refine lv_icmp_ge (tgt := 39) hx hb dX2_character_15 (by decide) (fun c2 => ?_) (fun c2 => ?_)
    · have h := itT h c2
      refine lv_iconst (v := 0) hx hb dX2_character_39 (by decide) ?_
      obtain rfl := Option.some.inj h
      exact hret _ _ _ _ _ rfl rfl hP hD hS dX2_character_40
    · have h := itF h c2
      refine lv_aload_n hx hb dX2_character_18 rfl (lv_at hl 0 rfl) ?_
      refine va_get (D := D) (ci := 1) (v := .int zat) (C := RX2) (T := TX2) (N := 9) hx hb hts inG2 hown hK hP 0 rfl rfl 5 (by decide) (hts _ wd1_62) (fun _ h9 => h9) rfl dX2_character_19 ?_
      refine lv_bipush (v := 80) hx hb dX2_character_22 (by decide) ?_
      refine lv_icmp_ge (tgt := 39) hx hb dX2_character_24 (by decide) (fun c3 => ?_) (fun c3 => ?_)
      · have h := itT h c3
        refine lv_iconst (v := 0) hx hb dX2_character_39 (by decide) ?_
        obtain rfl := Option.some.inj h
        exact hret _ _ _ _ _ rfl rfl hP hD hS dX2_character_40
      · have h := itF h c3
        refine lv_aload_n hx hb dX2_character_27 rfl (lv_at hl 0 rfl) ?_
        refine va_get (D := D) (ci := 1) (v := .ref a_characters) (C := RX2) (T := TX2) (N := 9) hx hb hts inG2 hown hK hP 0 rfl rfl 0 (by decide) (hts _ wd1_53) (fun _ h9 => h9) rfl dX2_character_28 ?_
        refine lv_aload_n hx hb dX2_character_31 rfl (lv_at hl 0 rfl) ?_
        refine va_get (D := D) (ci := 1) (v := .int zat) (C := RX2) (T := TX2) (N := 9) hx hb hts inG2 hown hK hP 0 rfl rfl 5 (by decide) (hts _ wd1_62) (fun _ h9 => h9) rfl dX2_character_32 ?_
        obtain ⟨g4, h⟩ := chk_s h
        refine va_cald hx hb hK hP 1 1 rfl rfl (gi_in g4) dX2_character_35 ?_
        refine lv_goto (tgt := 40) hx hb dX2_character_36 (by decide) ?_
        obtain ⟨g5, h⟩ := chk_s h
        obtain rfl := Option.some.inj h
        exact hret _ _ _ _ _ (isC_n g5) rfl hP hD hS dX2_character_40
def f_X2_digit (N : Nat) (zcharacters : Nat → Int32) (zlength : Int32) (zat : Int32) : Option (Int32) :=
    Option.bind (f_X2_character N zcharacters zlength zat) (fun q1 => if q1 < 48 then (some (-1)) else (if 57 < q1 then (some (-1)) else (some (q1 - 48))))
set_option maxHeartbeats 4000000 in
set_option maxRecDepth 100000 in
theorem c_X2_digit (l : Launch) (D : va_G) (cI cC cH : ClassId) (a0 : Nat) (a_characters : Nat) (a_told : Nat) (a_wayNumbers : Nat) (a_wayIndexes : Nat) (N : Nat) (zcharacters : Nat → Int32) (zlength : Int32) (zfaultIndex : Int32) (zfaultReason : Int32) (zat : Int32) (zwayCount : Int32) (y : Int32) (h : f_X2_digit N zcharacters zlength zat = some y) : CTi l yX2_digit cX2_digit 2 (some .int) 1 20 D (tyL cI cC cH) [.ref a0] [(a0, .inr (1, [.ref a_characters, .int zlength, .ref a_told, .int zfaultIndex, .int zfaultReason, .int zat, .ref a_wayNumbers, .ref a_wayIndexes, .int zwayCount])), (a_characters, .inl (cC, 80, .inl zcharacters))] [(a0, .inr (1, [.ref a_characters, .int zlength, .ref a_told, .int zfaultIndex, .int zfaultReason, .int zat, .ref a_wayNumbers, .ref a_wayIndexes, .int zwayCount])), (a_characters, .inl (cC, 80, .inl zcharacters))] y := by
  unfold f_X2_digit at h
  refine ctI (by decide) (Nat.le_of_ble_eq_true rfl) ?_
  intro p e s m args below meth c A Q ls F hret hP hD hS hl
  have hx := F.1
  have hb := F.2.1
  have hown : s.vm.findClass RX2 = some m.cls := F.2.2.2.1
  have hts := F.2.2.2.2.1
  have hN := F.2.2.2.2.2.1
  have hK := F.2.2.2.2.2.2.1
  have hl : lv_has ls 2 [(0, .ref a0)] := hl
  refine lv_aload_n hx hb dX2_digit_0 rfl (lv_at hl 0 rfl) ?_
  obtain ⟨q1, hq2, h⟩ := bd h
  refine kvI (ws' := [(a0, .inr (1, [.ref a_characters, .int zlength, .ref a_told, .int zfaultIndex, .int zfaultReason, .int zat, .ref a_wayNumbers, .ref a_wayIndexes, .int zwayCount])), (a_characters, .inl (cC, 80, .inl zcharacters))]) (wr := []) (As := []) F (c_X2_character l D cI cC cH a0 a_characters a_told a_wayNumbers a_wayIndexes N zcharacters zlength zfaultIndex zfaultReason zat zwayCount q1 hq2) yfX2_character ⟨wd2_64, wd2_66, wdp_10⟩ hP hD hS [0, 1] [] [0, 1] rfl rfl (by decide) (by decide) (by decide) rfl (by decide) 0 1 rfl rfl rfl ⟨Nat.le_of_ble_eq_true rfl, Nat.le_of_ble_eq_true rfl, Nat.zero_le _, Nat.zero_le _⟩ rfl hl rfl (Nat.le_of_ble_eq_true rfl) dX2_digit_1 (fun H locs hP hD hS => ?_)
  refine lv_istore_n (lv' := [(1, .int q1), (0, .ref a0)]) hx hb dX2_digit_4 rfl hl (by decide) rfl (fun ls hl => ?_)
  refine lv_iload_n hx hb dX2_digit_5 rfl (lv_at hl 0 rfl) ?_
  refine lv_bipush (v := 48) hx hb dX2_digit_6 (by decide) ?_
  refine lv_icmp_lt (tgt := 24) hx hb dX2_digit_8 (by decide) (fun c3 => ?_) (fun c3 => ?_)
  · have h := itT h c3
    refine lv_iconst (v := (-1)) hx hb dX2_digit_24 (by decide) ?_
    obtain rfl := Option.some.inj h
    exact hret _ _ _ _ _ rfl hP hD hS dX2_digit_25
  · have h := itF h c3
    refine lv_iload_n hx hb dX2_digit_11 rfl (lv_at hl 0 rfl) ?_
    refine lv_bipush (v := 57) hx hb dX2_digit_12 (by decide) ?_
    refine lv_icmp_gt (tgt := 24) hx hb dX2_digit_14 (by decide) (fun c4 => ?_) (fun c4 => ?_)
    · have h := itT h c4
      refine lv_iconst (v := (-1)) hx hb dX2_digit_24 (by decide) ?_
      obtain rfl := Option.some.inj h
      exact hret _ _ _ _ _ rfl hP hD hS dX2_digit_25
    · have h := itF h c4
      refine lv_iload_n hx hb dX2_digit_17 rfl (lv_at hl 0 rfl) ?_
      refine lv_bipush (v := 48) hx hb dX2_digit_18 (by decide) ?_
      refine lv_isub hx hb dX2_digit_20 ?_
      refine lv_goto (tgt := 25) hx hb dX2_digit_21 (by decide) ?_
      obtain rfl := Option.some.inj h
      exact hret _ _ _ _ _ rfl hP hD hS dX2_digit_25
def f_X2_blame (N : Nat) (x1 : Int32) (x2 : Int32) (zfaultIndex : Int32) (zfaultReason : Int32) : Option (Int32 × Int32 × Int32) :=
    some (0, x1, x2)
set_option maxHeartbeats 4000000 in
set_option maxRecDepth 100000 in
theorem c_X2_blame (l : Launch) (D : va_G) (cI cC cH : ClassId) (a0 : Nat) (a_characters : Nat) (a_told : Nat) (a_wayNumbers : Nat) (a_wayIndexes : Nat) (N : Nat) (x1 : Int32) (x2 : Int32) (zlength : Int32) (zfaultIndex : Int32) (zfaultReason : Int32) (zat : Int32) (zwayCount : Int32) (y : Int32 × Int32 × Int32) (h : f_X2_blame N x1 x2 zfaultIndex zfaultReason = some y) : CTi l yX2_blame cX2_blame 3 (some .boolean) 0 0 D (tyL cI cC cH) [.ref a0, .int x1, .int x2] [(a0, .inr (1, [.ref a_characters, .int zlength, .ref a_told, .int zfaultIndex, .int zfaultReason, .int zat, .ref a_wayNumbers, .ref a_wayIndexes, .int zwayCount]))] [(a0, .inr (1, [.ref a_characters, .int zlength, .ref a_told, .int y.2.1, .int y.2.2, .int zat, .ref a_wayNumbers, .ref a_wayIndexes, .int zwayCount]))] y.1 := by
  unfold f_X2_blame at h
  refine ctZ (by decide) (Nat.le_of_ble_eq_true rfl) ?_
  intro p e s m args below meth c A Q ls F hret hP hD hS hl
  have hx := F.1
  have hb := F.2.1
  have hown : s.vm.findClass RX2 = some m.cls := F.2.2.2.1
  have hts := F.2.2.2.2.1
  have hN := F.2.2.2.2.2.1
  have hK := F.2.2.2.2.2.2.1
  have hl : lv_has ls 3 [(0, .ref a0), (1, .int x1), (2, .int x2)] := hl
  refine lv_aload_n hx hb dX2_blame_0 rfl (lv_at hl 0 rfl) ?_
  refine lv_iload_n hx hb dX2_blame_1 rfl (lv_at hl 1 rfl) ?_
  refine va_put (D := D) (ci := 1) (v := .int x1) (ty := .int) (C := RX2) (T := TX2) (N := 9) hx hb hts inG2 tyX2 tyX2_ok nmX2 hown hK hP hD hS 0 rfl rfl 3 (by decide) (hts _ wd1_58) (fun _ h9 => h9) rfl (by decide +kernel) rfl rfl (Nat.le_of_ble_eq_true rfl) dX2_blame_2 (fun H locs hP hD hS => ?_)
  have hP : va_P D vwCl [(a0, .inr (1, [.ref a_characters, .int zlength, .ref a_told, .int x1, .int zfaultReason, .int zat, .ref a_wayNumbers, .ref a_wayIndexes, .int zwayCount]))] H := hP
  have hD : va_D A [(a0, .inr (1, [.ref a_characters, .int zlength, .ref a_told, .int x1, .int zfaultReason, .int zat, .ref a_wayNumbers, .ref a_wayIndexes, .int zwayCount]))] := hD
  refine lv_aload_n hx hb dX2_blame_5 rfl (lv_at hl 0 rfl) ?_
  refine lv_iload_n hx hb dX2_blame_6 rfl (lv_at hl 2 rfl) ?_
  refine va_put (D := D) (ci := 1) (v := .int x2) (ty := .int) (C := RX2) (T := TX2) (N := 9) hx hb hts inG2 tyX2 tyX2_ok nmX2 hown hK hP hD hS 0 rfl rfl 4 (by decide) (hts _ wd1_60) (fun _ h9 => h9) rfl (by decide +kernel) rfl rfl (Nat.le_of_ble_eq_true rfl) dX2_blame_7 (fun H locs hP hD hS => ?_)
  have hP : va_P D vwCl [(a0, .inr (1, [.ref a_characters, .int zlength, .ref a_told, .int x1, .int x2, .int zat, .ref a_wayNumbers, .ref a_wayIndexes, .int zwayCount]))] H := hP
  have hD : va_D A [(a0, .inr (1, [.ref a_characters, .int zlength, .ref a_told, .int x1, .int x2, .int zat, .ref a_wayNumbers, .ref a_wayIndexes, .int zwayCount]))] := hD
  refine lv_iconst (v := 0) hx hb dX2_blame_10 (by decide) ?_
  obtain rfl := Option.some.inj h
  exact hret _ _ _ _ _ rfl rfl hP hD hS dX2_blame_11
def f_X2_isToldSince_L2 (N : Nat) (x2_2 : Int32) (zwayNumbers_2 : Nat → Int32) (zwayCount_2 : Int32) : Nat → Int32 → Option ((Int32) ⊕ (Unit))
  | 0, _ => none
  | n_2 + 1, x3_2 =>
    if zwayCount_2 ≤ x3_2 then (some (.inr ())) else (chk (gi x3_2 80) (if (zwayNumbers_2 (Int32.toNatClampNeg x3_2)) = x2_2 then (some (.inl 1)) else (f_X2_isToldSince_L2 N x2_2 zwayNumbers_2 zwayCount_2 n_2 (x3_2 + 1))))
def f_X2_isToldSince (N : Nat) (x1 : Int32) (x2 : Int32) (zwayNumbers : Nat → Int32) (zwayCount : Int32) : Option (Int32) :=
    Option.bind (f_X2_isToldSince_L2 N x2 zwayNumbers zwayCount N x1) (fun q6 => sm q6 some (fun t7 => some 0))
set_option maxHeartbeats 4000000 in
set_option maxRecDepth 100000 in
theorem c_X2_isToldSince (l : Launch) (D : va_G) (cI cC cH : ClassId) (a0 : Nat) (a_characters : Nat) (a_told : Nat) (a_wayNumbers : Nat) (a_wayIndexes : Nat) (N : Nat) (x1 : Int32) (x2 : Int32) (zlength : Int32) (zfaultIndex : Int32) (zfaultReason : Int32) (zat : Int32) (zwayNumbers : Nat → Int32) (zwayCount : Int32) (y : Int32) (h : f_X2_isToldSince N x1 x2 zwayNumbers zwayCount = some y) : CTi l yX2_isToldSince cX2_isToldSince 4 (some .boolean) 0 0 D (tyL cI cC cH) [.ref a0, .int x1, .int x2] [(a0, .inr (1, [.ref a_characters, .int zlength, .ref a_told, .int zfaultIndex, .int zfaultReason, .int zat, .ref a_wayNumbers, .ref a_wayIndexes, .int zwayCount])), (a_wayNumbers, .inl (cI, 80, .inl zwayNumbers))] [(a0, .inr (1, [.ref a_characters, .int zlength, .ref a_told, .int zfaultIndex, .int zfaultReason, .int zat, .ref a_wayNumbers, .ref a_wayIndexes, .int zwayCount])), (a_wayNumbers, .inl (cI, 80, .inl zwayNumbers))] y := by
  unfold f_X2_isToldSince at h
  refine ctZ (by decide) (Nat.le_of_ble_eq_true rfl) ?_
  intro p e s m args below meth c A Q ls F hret hP hD hS hl
  have hx := F.1
  have hb := F.2.1
  have hown : s.vm.findClass RX2 = some m.cls := F.2.2.2.1
  have hts := F.2.2.2.2.1
  have hN := F.2.2.2.2.2.1
  have hK := F.2.2.2.2.2.2.1
  have hl : lv_has ls 4 [(0, .ref a0), (1, .int x1), (2, .int x2)] := hl
  refine lv_iload_n hx hb dX2_isToldSince_0 rfl (lv_at hl 1 rfl) ?_
  refine lv_istore_n (lv' := [(3, .int x1), (0, .ref a0), (1, .int x1), (2, .int x2)]) hx hb dX2_isToldSince_1 rfl hl (by decide) rfl (fun ls hl => ?_)
  have L_2 : ∀ (n_2 : Nat) (x3_2 : Int32) (q4 : ((Int32) ⊕ (Unit))), f_X2_isToldSince_L2 N x2 zwayNumbers zwayCount n_2 x3_2 = some q4 → (∀ (t5 : Unit), q4 = .inr t5 → ∀ (ls : Array Slot) (H : Heap) (locs : List Loc), lv_has ls 4 [] → va_P D vwCl [(a0, .inr (1, [.ref a_characters, .int zlength, .ref a_told, .int zfaultIndex, .int zfaultReason, .int zat, .ref a_wayNumbers, .ref a_wayIndexes, .int zwayCount])), (a_wayNumbers, .inl (cI, 80, .inl zwayNumbers))] H → va_D A [(a0, .inr (1, [.ref a_characters, .int zlength, .ref a_told, .int zfaultIndex, .int zfaultReason, .int zat, .ref a_wayNumbers, .ref a_wayIndexes, .int zwayCount])), (a_wayNumbers, .inl (cI, 80, .inl zwayNumbers))] → va_S A s.heap H locs → W p l e (rmm 0 0) s m args below meth c H locs 0 0 Q (F0 m 28 ls [])) → (∀ r9, q4 = .inl r9 → r9 = y) → ∀ (ls : Array Slot) (H : Heap) (locs : List Loc), lv_has ls 4 [(0, .ref a0), (2, .int x2), (3, .int x3_2)] → va_P D vwCl [(a0, .inr (1, [.ref a_characters, .int zlength, .ref a_told, .int zfaultIndex, .int zfaultReason, .int zat, .ref a_wayNumbers, .ref a_wayIndexes, .int zwayCount])), (a_wayNumbers, .inl (cI, 80, .inl zwayNumbers))] H → va_D A [(a0, .inr (1, [.ref a_characters, .int zlength, .ref a_told, .int zfaultIndex, .int zfaultReason, .int zat, .ref a_wayNumbers, .ref a_wayIndexes, .int zwayCount])), (a_wayNumbers, .inl (cI, 80, .inl zwayNumbers))] → va_S A s.heap H locs → W p l e (rmm 0 0) s m args below meth c H locs 0 0 Q (F0 m 2 ls []) := by
    intro  n_2
    induction n_2 with
    | zero => intro x3_2 q4 h; exact no_s h
    | succ n_2 ih_2 =>
      intro x3_2 q4 h J_2 hr_2 ls H locs hl hP hD hS
      rw [f_X2_isToldSince_L2] at h
      refine lv_iload_n hx hb dX2_isToldSince_2 rfl (lv_at hl 2 rfl) ?_
      refine lv_aload_n hx hb dX2_isToldSince_3 rfl (lv_at hl 0 rfl) ?_
      refine va_get (D := D) (ci := 1) (v := .int zwayCount) (C := RX2) (T := TX2) (N := 9) hx hb hts inG2 hown hK hP 0 rfl rfl 8 (by decide) (hts _ wd1_65) (fun _ h9 => h9) rfl dX2_isToldSince_4 ?_
      refine lv_icmp_ge (tgt := 28) hx hb dX2_isToldSince_7 (by decide) (fun c1 => ?_) (fun c1 => ?_)
      · have h := itT h c1
        obtain rfl := Option.some.inj h
        exact J_2 _ rfl _ _ _ (lv_sub hl [] rfl) hP hD hS
      · have h := itF h c1
        refine lv_aload_n hx hb dX2_isToldSince_10 rfl (lv_at hl 0 rfl) ?_
        refine va_get (D := D) (ci := 1) (v := .ref a_wayNumbers) (C := RX2) (T := TX2) (N := 9) hx hb hts inG2 hown hK hP 0 rfl rfl 6 (by decide) (hts _ wd1_63) (fun _ h9 => h9) rfl dX2_isToldSince_11 ?_
        refine lv_iload_n hx hb dX2_isToldSince_14 rfl (lv_at hl 2 rfl) ?_
        obtain ⟨g2, h⟩ := chk_s h
        refine va_iald hx hb hK hP 1 0 rfl rfl (gi_in g2) dX2_isToldSince_15 ?_
        refine lv_iload_n hx hb dX2_isToldSince_16 rfl (lv_at hl 1 rfl) ?_
        refine lv_icmp_ne (tgt := 22) hx hb dX2_isToldSince_17 (by decide) (fun c3 => ?_) (fun c3 => ?_)
        · have h := itF h c3
          refine lv_iinc (v := x3_2 + 1) (lv' := [(3, .int (x3_2 + 1)), (0, .ref a0), (2, .int x2)]) hx hb dX2_isToldSince_22 hl (k := 2) rfl rfl (by decide) rfl (fun ls hl => ?_)
          refine lv_goto (tgt := 2) hx hb dX2_isToldSince_25 (by decide) ?_
          exact ih_2 (x3_2 + 1) _ h J_2 hr_2 _ _ _ (lv_sub hl [1, 2, 0] rfl) hP hD hS
        · have h := itT h c3
          refine lv_iconst (v := 1) hx hb dX2_isToldSince_20 (by decide) ?_
          obtain rfl := Option.some.inj h
          obtain rfl := hr_2 _ rfl
          exact hret _ _ _ _ _ rfl rfl hP hD hS dX2_isToldSince_21
  obtain ⟨q6, hb8, h⟩ := bd h
  have hr9 : ∀ r9, q6 = .inl r9 → r9 = y := by
    intro r9 e9
    rw [e9] at h
    exact Option.some.inj h
  refine L_2 N x1 q6 hb8 ?_ hr9 _ _ _ (lv_sub hl [1, 3, 0] rfl) hP hD hS
  intro t7 e9 ls H locs hl hP hD hS
  rw [e9] at h
  have h := sm_r h
  refine lv_iconst (v := 0) hx hb dX2_isToldSince_28 (by decide) ?_
  obtain rfl := Option.some.inj h
  exact hret _ _ _ _ _ rfl rfl hP hD hS dX2_isToldSince_29
def f_X2_tellWay (N : Nat) (x1 : Int32) (x2 : Int32) (ztold_ways : Nat → Int32) (ztold_size : Int32) (zwayNumbers : Nat → Int32) (zwayIndexes : Nat → Int32) (zwayCount : Int32) : Option ((Nat → Int32) × (Nat → Int32) × (Nat → Int32) × Int32) :=
    Option.bind (α := (Nat → Int32) × (Nat → Int32) × Int32) (if 80 ≤ zwayCount then (some (zwayNumbers, zwayIndexes, zwayCount)) else (chk (gi zwayCount 80) (chk (gi zwayCount 80) (some (upd zwayNumbers (Int32.toNatClampNeg zwayCount) x2, upd zwayIndexes (Int32.toNatClampNeg zwayCount) x1, zwayCount + 1))))) (fun q2 => Option.bind (f_X0_has N (ztold_size - 1) ztold_size) (fun q7 => if q7 = 0 then (some (ztold_ways, q2.1, q2.2.1, q2.2.2)) else (if 12 ≤ x2 then (some (ztold_ways, q2.1, q2.2.1, q2.2.2)) else (chk (gi (ztold_size - 1) 12) (chk (gi (ztold_size - 1) 12) (some (upd ztold_ways (Int32.toNatClampNeg (ztold_size - 1)) ((ztold_ways (Int32.toNatClampNeg (ztold_size - 1))) ||| ((1 : Int32) <<< (x2 &&& 31))), q2.1, q2.2.1, q2.2.2)))))))
set_option maxHeartbeats 4000000 in
set_option maxRecDepth 100000 in
theorem c_X2_tellWay (l : Launch) (D : va_G) (cI cC cH : ClassId) (a0 : Nat) (a_characters : Nat) (a_told : Nat) (a_wayNumbers : Nat) (a_wayIndexes : Nat) (a_told_owners : Nat) (a_told_ranks : Nat) (a_told_ways : Nat) (N : Nat) (x1 : Int32) (x2 : Int32) (zlength : Int32) (ztold_ways : Nat → Int32) (ztold_size : Int32) (zfaultIndex : Int32) (zfaultReason : Int32) (zat : Int32) (zwayNumbers : Nat → Int32) (zwayIndexes : Nat → Int32) (zwayCount : Int32) (y : (Nat → Int32) × (Nat → Int32) × (Nat → Int32) × Int32) (h : f_X2_tellWay N x1 x2 ztold_ways ztold_size zwayNumbers zwayIndexes zwayCount = some y) : CTv l yX2_tellWay cX2_tellWay 4 none 1 21 D (tyL cI cC cH) [.ref a0, .int x1, .int x2] [(a0, .inr (1, [.ref a_characters, .int zlength, .ref a_told, .int zfaultIndex, .int zfaultReason, .int zat, .ref a_wayNumbers, .ref a_wayIndexes, .int zwayCount])), (a_told, .inr (0, [.ref a_told_owners, .ref a_told_ranks, .ref a_told_ways, .int ztold_size])), (a_told_ways, .inl (cI, 12, .inl ztold_ways)), (a_wayNumbers, .inl (cI, 80, .inl zwayNumbers)), (a_wayIndexes, .inl (cI, 80, .inl zwayIndexes))] [(a0, .inr (1, [.ref a_characters, .int zlength, .ref a_told, .int zfaultIndex, .int zfaultReason, .int zat, .ref a_wayNumbers, .ref a_wayIndexes, .int y.2.2.2])), (a_told, .inr (0, [.ref a_told_owners, .ref a_told_ranks, .ref a_told_ways, .int ztold_size])), (a_told_ways, .inl (cI, 12, .inl y.1)), (a_wayNumbers, .inl (cI, 80, .inl y.2.1)), (a_wayIndexes, .inl (cI, 80, .inl y.2.2.1))] := by
  unfold f_X2_tellWay at h
  refine ctV (by decide) (Nat.le_of_ble_eq_true rfl) ?_
  intro p e s m args below meth c A Q ls F hret hP hD hS hl
  have hx := F.1
  have hb := F.2.1
  have hown : s.vm.findClass RX2 = some m.cls := F.2.2.2.1
  have hts := F.2.2.2.2.1
  have hN := F.2.2.2.2.2.1
  have hK := F.2.2.2.2.2.2.1
  have hl : lv_has ls 4 [(0, .ref a0), (1, .int x1), (2, .int x2)] := hl
  refine lv_aload_n hx hb dX2_tellWay_0 rfl (lv_at hl 0 rfl) ?_
  refine va_get (D := D) (ci := 1) (v := .int zwayCount) (C := RX2) (T := TX2) (N := 9) hx hb hts inG2 hown hK hP 0 rfl rfl 8 (by decide) (hts _ wd1_65) (fun _ h9 => h9) rfl dX2_tellWay_1 ?_
  refine lv_bipush (v := 80) hx hb dX2_tellWay_4 (by decide) ?_
  obtain ⟨q2, hb13, h⟩ := bd h
  have J3 : ∀ (ls : Array Slot) (H : Heap) (locs : List Loc), lv_has ls 4 [(0, .ref a0), (2, .int x2)] → va_P D vwCl [(a0, .inr (1, [.ref a_characters, .int zlength, .ref a_told, .int zfaultIndex, .int zfaultReason, .int zat, .ref a_wayNumbers, .ref a_wayIndexes, .int q2.2.2])), (a_told, .inr (0, [.ref a_told_owners, .ref a_told_ranks, .ref a_told_ways, .int ztold_size])), (a_told_ways, .inl (cI, 12, .inl ztold_ways)), (a_wayNumbers, .inl (cI, 80, .inl q2.1)), (a_wayIndexes, .inl (cI, 80, .inl q2.2.1))] H → va_D A [(a0, .inr (1, [.ref a_characters, .int zlength, .ref a_told, .int zfaultIndex, .int zfaultReason, .int zat, .ref a_wayNumbers, .ref a_wayIndexes, .int q2.2.2])), (a_told, .inr (0, [.ref a_told_owners, .ref a_told_ranks, .ref a_told_ways, .int ztold_size])), (a_told_ways, .inl (cI, 12, .inl ztold_ways)), (a_wayNumbers, .inl (cI, 80, .inl q2.1)), (a_wayIndexes, .inl (cI, 80, .inl q2.2.1))] → va_S A s.heap H locs → W p l e (rmm 1 21) s m args below meth c H locs 0 0 Q (F0 m 39 ls []) := by
    intro ls H locs hl hP hD hS
    refine lv_aload_n hx hb dX2_tellWay_39 rfl (lv_at hl 0 rfl) ?_
    refine va_get (D := D) (ci := 1) (v := .ref a_told) (C := RX2) (T := TX2) (N := 9) hx hb hts inG2 hown hK hP 0 rfl rfl 2 (by decide) (hts _ wd1_56) (fun _ h9 => h9) rfl dX2_tellWay_40 ?_
    refine va_get (D := D) (ci := 0) (v := .int ztold_size) (C := RX0) (T := TX0) (N := 4) hx hb hts inG0 hown hK hP 1 rfl rfl 3 (by decide) (hts _ wd1_32) (fun _ h9 => h9) rfl dX2_tellWay_43 ?_
    refine lv_iconst (v := 1) hx hb dX2_tellWay_46 (by decide) ?_
    refine lv_isub hx hb dX2_tellWay_47 ?_
    refine lv_istore_n (lv' := [(3, .int (ztold_size - 1)), (0, .ref a0), (2, .int x2)]) hx hb dX2_tellWay_48 rfl hl (by decide) rfl (fun ls hl => ?_)
    refine lv_aload_n hx hb dX2_tellWay_49 rfl (lv_at hl 1 rfl) ?_
    refine va_get (D := D) (ci := 1) (v := .ref a_told) (C := RX2) (T := TX2) (N := 9) hx hb hts inG2 hown hK hP 0 rfl rfl 2 (by decide) (hts _ wd1_56) (fun _ h9 => h9) rfl dX2_tellWay_50 ?_
    refine lv_iload_n hx hb dX2_tellWay_53 rfl (lv_at hl 0 rfl) ?_
    obtain ⟨q7, hq8, h⟩ := bd h
    refine kvI (ws' := [(a0, .inr (1, [.ref a_characters, .int zlength, .ref a_told, .int zfaultIndex, .int zfaultReason, .int zat, .ref a_wayNumbers, .ref a_wayIndexes, .int q2.2.2])), (a_told, .inr (0, [.ref a_told_owners, .ref a_told_ranks, .ref a_told_ways, .int ztold_size])), (a_told_ways, .inl (cI, 12, .inl ztold_ways)), (a_wayNumbers, .inl (cI, 80, .inl q2.1)), (a_wayIndexes, .inl (cI, 80, .inl q2.2.1))]) (wr := [(a0, .inr (1, [.ref a_characters, .int zlength, .ref a_told, .int zfaultIndex, .int zfaultReason, .int zat, .ref a_wayNumbers, .ref a_wayIndexes, .int q2.2.2])), (a_told_ways, .inl (cI, 12, .inl ztold_ways)), (a_wayNumbers, .inl (cI, 80, .inl q2.1)), (a_wayIndexes, .inl (cI, 80, .inl q2.2.1))]) (As := [.int (ztold_size - 1)]) F (c_X0_has l D cI cC cH a_told a_told_owners a_told_ranks a_told_ways N (ztold_size - 1) ztold_size q7 hq8) yfX0_has ⟨wd2_90, wd1_125, wd1_126⟩ hP hD hS [1] [0, 2, 3, 4] [0, 4, 1, 2, 3] rfl rfl (by decide) (by decide) (by decide) rfl (by decide) 1 0 rfl rfl rfl ⟨Nat.le_of_ble_eq_true rfl, Nat.le_of_ble_eq_true rfl, Nat.zero_le _, Nat.zero_le _⟩ rfl hl rfl (Nat.le_of_ble_eq_true rfl) dX2_tellWay_54 (fun H locs hP hD hS => ?_)
    refine lv_if_eq (tgt := 81) hx hb dX2_tellWay_57 (by decide) (fun c9 => ?_) (fun c9 => ?_)
    · have h := itT h c9
      obtain rfl := Option.some.inj h
      exact hret _ _ _ _ hP hD hS dX2_tellWay_81
    · have h := itF h c9
      refine lv_iload_n hx hb dX2_tellWay_60 rfl (lv_at hl 2 rfl) ?_
      refine lv_bipush (v := 12) hx hb dX2_tellWay_61 (by decide) ?_
      refine lv_icmp_ge (tgt := 81) hx hb dX2_tellWay_63 (by decide) (fun c10 => ?_) (fun c10 => ?_)
      · have h := itT h c10
        obtain rfl := Option.some.inj h
        exact hret _ _ _ _ hP hD hS dX2_tellWay_81
      · have h := itF h c10
        refine lv_aload_n hx hb dX2_tellWay_66 rfl (lv_at hl 1 rfl) ?_
        refine va_get (D := D) (ci := 1) (v := .ref a_told) (C := RX2) (T := TX2) (N := 9) hx hb hts inG2 hown hK hP 0 rfl rfl 2 (by decide) (hts _ wd1_56) (fun _ h9 => h9) rfl dX2_tellWay_67 ?_
        refine va_get (D := D) (ci := 0) (v := .ref a_told_ways) (C := RX0) (T := TX0) (N := 4) hx hb hts inG0 hown hK hP 1 rfl rfl 2 (by decide) (hts _ wd1_29) (fun _ h9 => h9) rfl dX2_tellWay_70 ?_
        refine lv_iload_n hx hb dX2_tellWay_73 rfl (lv_at hl 0 rfl) ?_
        refine lv_dup2_11 hx hb dX2_tellWay_74 rfl rfl ?_
        obtain ⟨g11, h⟩ := chk_s h
        refine va_iald hx hb hK hP 2 0 rfl rfl (gi_in g11) dX2_tellWay_75 ?_
        refine lv_iconst (v := 1) hx hb dX2_tellWay_76 (by decide) ?_
        refine lv_iload_n hx hb dX2_tellWay_77 rfl (lv_at hl 2 rfl) ?_
        refine lv_ishl hx hb dX2_tellWay_78 ?_
        refine lv_ior hx hb dX2_tellWay_79 ?_
        obtain ⟨g12, h⟩ := chk_s h
        refine va_iast hx hb hK hP hD hS 2 0 rfl rfl (gi_in g12) dX2_tellWay_80 (fun H locs hP hD hS => ?_)
        have hP : va_P D vwCl [(a0, .inr (1, [.ref a_characters, .int zlength, .ref a_told, .int zfaultIndex, .int zfaultReason, .int zat, .ref a_wayNumbers, .ref a_wayIndexes, .int q2.2.2])), (a_told, .inr (0, [.ref a_told_owners, .ref a_told_ranks, .ref a_told_ways, .int ztold_size])), (a_told_ways, .inl (cI, 12, .inl (upd ztold_ways (Int32.toNatClampNeg (ztold_size - 1)) ((ztold_ways (Int32.toNatClampNeg (ztold_size - 1))) ||| ((1 : Int32) <<< (x2 &&& 31)))))), (a_wayNumbers, .inl (cI, 80, .inl q2.1)), (a_wayIndexes, .inl (cI, 80, .inl q2.2.1))] H := hP
        have hD : va_D A [(a0, .inr (1, [.ref a_characters, .int zlength, .ref a_told, .int zfaultIndex, .int zfaultReason, .int zat, .ref a_wayNumbers, .ref a_wayIndexes, .int q2.2.2])), (a_told, .inr (0, [.ref a_told_owners, .ref a_told_ranks, .ref a_told_ways, .int ztold_size])), (a_told_ways, .inl (cI, 12, .inl (upd ztold_ways (Int32.toNatClampNeg (ztold_size - 1)) ((ztold_ways (Int32.toNatClampNeg (ztold_size - 1))) ||| ((1 : Int32) <<< (x2 &&& 31)))))), (a_wayNumbers, .inl (cI, 80, .inl q2.1)), (a_wayIndexes, .inl (cI, 80, .inl q2.2.1))] := hD
        obtain rfl := Option.some.inj h
        exact hret _ _ _ _ hP hD hS dX2_tellWay_81
  clear h
  have h := hb13
  clear hb13
  refine lv_icmp_ge (tgt := 39) hx hb dX2_tellWay_6 (by decide) (fun c1 => ?_) (fun c1 => ?_)
  · have h := itT h c1
    obtain rfl := Option.some.inj h
    exact J3 _ _ _ (lv_sub hl [0, 2] rfl) hP hD hS
  · have h := itF h c1
    refine lv_aload_n hx hb dX2_tellWay_9 rfl (lv_at hl 0 rfl) ?_
    refine va_get (D := D) (ci := 1) (v := .ref a_wayIndexes) (C := RX2) (T := TX2) (N := 9) hx hb hts inG2 hown hK hP 0 rfl rfl 7 (by decide) (hts _ wd1_64) (fun _ h9 => h9) rfl dX2_tellWay_10 ?_
    refine lv_aload_n hx hb dX2_tellWay_13 rfl (lv_at hl 0 rfl) ?_
    refine va_get (D := D) (ci := 1) (v := .int zwayCount) (C := RX2) (T := TX2) (N := 9) hx hb hts inG2 hown hK hP 0 rfl rfl 8 (by decide) (hts _ wd1_65) (fun _ h9 => h9) rfl dX2_tellWay_14 ?_
    refine lv_iload_n hx hb dX2_tellWay_17 rfl (lv_at hl 1 rfl) ?_
    obtain ⟨g5, h⟩ := chk_s h
    refine va_iast hx hb hK hP hD hS 4 0 rfl rfl (gi_in g5) dX2_tellWay_18 (fun H locs hP hD hS => ?_)
    have hP : va_P D vwCl [(a0, .inr (1, [.ref a_characters, .int zlength, .ref a_told, .int zfaultIndex, .int zfaultReason, .int zat, .ref a_wayNumbers, .ref a_wayIndexes, .int zwayCount])), (a_told, .inr (0, [.ref a_told_owners, .ref a_told_ranks, .ref a_told_ways, .int ztold_size])), (a_told_ways, .inl (cI, 12, .inl ztold_ways)), (a_wayNumbers, .inl (cI, 80, .inl zwayNumbers)), (a_wayIndexes, .inl (cI, 80, .inl (upd zwayIndexes (Int32.toNatClampNeg zwayCount) x1)))] H := hP
    have hD : va_D A [(a0, .inr (1, [.ref a_characters, .int zlength, .ref a_told, .int zfaultIndex, .int zfaultReason, .int zat, .ref a_wayNumbers, .ref a_wayIndexes, .int zwayCount])), (a_told, .inr (0, [.ref a_told_owners, .ref a_told_ranks, .ref a_told_ways, .int ztold_size])), (a_told_ways, .inl (cI, 12, .inl ztold_ways)), (a_wayNumbers, .inl (cI, 80, .inl zwayNumbers)), (a_wayIndexes, .inl (cI, 80, .inl (upd zwayIndexes (Int32.toNatClampNeg zwayCount) x1)))] := hD
    refine lv_aload_n hx hb dX2_tellWay_19 rfl (lv_at hl 0 rfl) ?_
    refine va_get (D := D) (ci := 1) (v := .ref a_wayNumbers) (C := RX2) (T := TX2) (N := 9) hx hb hts inG2 hown hK hP 0 rfl rfl 6 (by decide) (hts _ wd1_63) (fun _ h9 => h9) rfl dX2_tellWay_20 ?_
    refine lv_aload_n hx hb dX2_tellWay_23 rfl (lv_at hl 0 rfl) ?_
    refine va_get (D := D) (ci := 1) (v := .int zwayCount) (C := RX2) (T := TX2) (N := 9) hx hb hts inG2 hown hK hP 0 rfl rfl 8 (by decide) (hts _ wd1_65) (fun _ h9 => h9) rfl dX2_tellWay_24 ?_
    refine lv_iload_n hx hb dX2_tellWay_27 rfl (lv_at hl 2 rfl) ?_
    obtain ⟨g6, h⟩ := chk_s h
    refine va_iast hx hb hK hP hD hS 3 0 rfl rfl (gi_in g6) dX2_tellWay_28 (fun H locs hP hD hS => ?_)
    have hP : va_P D vwCl [(a0, .inr (1, [.ref a_characters, .int zlength, .ref a_told, .int zfaultIndex, .int zfaultReason, .int zat, .ref a_wayNumbers, .ref a_wayIndexes, .int zwayCount])), (a_told, .inr (0, [.ref a_told_owners, .ref a_told_ranks, .ref a_told_ways, .int ztold_size])), (a_told_ways, .inl (cI, 12, .inl ztold_ways)), (a_wayNumbers, .inl (cI, 80, .inl (upd zwayNumbers (Int32.toNatClampNeg zwayCount) x2))), (a_wayIndexes, .inl (cI, 80, .inl (upd zwayIndexes (Int32.toNatClampNeg zwayCount) x1)))] H := hP
    have hD : va_D A [(a0, .inr (1, [.ref a_characters, .int zlength, .ref a_told, .int zfaultIndex, .int zfaultReason, .int zat, .ref a_wayNumbers, .ref a_wayIndexes, .int zwayCount])), (a_told, .inr (0, [.ref a_told_owners, .ref a_told_ranks, .ref a_told_ways, .int ztold_size])), (a_told_ways, .inl (cI, 12, .inl ztold_ways)), (a_wayNumbers, .inl (cI, 80, .inl (upd zwayNumbers (Int32.toNatClampNeg zwayCount) x2))), (a_wayIndexes, .inl (cI, 80, .inl (upd zwayIndexes (Int32.toNatClampNeg zwayCount) x1)))] := hD
    refine lv_aload_n hx hb dX2_tellWay_29 rfl (lv_at hl 0 rfl) ?_
    refine lv_dup hx hb dX2_tellWay_30 rfl ?_
    refine va_get (D := D) (ci := 1) (v := .int zwayCount) (C := RX2) (T := TX2) (N := 9) hx hb hts inG2 hown hK hP 0 rfl rfl 8 (by decide) (hts _ wd1_65) (fun _ h9 => h9) rfl dX2_tellWay_31 ?_
    refine lv_iconst (v := 1) hx hb dX2_tellWay_34 (by decide) ?_
    refine lv_iadd hx hb dX2_tellWay_35 ?_
    refine va_put (D := D) (ci := 1) (v := .int (zwayCount + 1)) (ty := .int) (C := RX2) (T := TX2) (N := 9) hx hb hts inG2 tyX2 tyX2_ok nmX2 hown hK hP hD hS 0 rfl rfl 8 (by decide) (hts _ wd1_65) (fun _ h9 => h9) rfl (by decide +kernel) rfl rfl (Nat.le_of_ble_eq_true rfl) dX2_tellWay_36 (fun H locs hP hD hS => ?_)
    have hP : va_P D vwCl [(a0, .inr (1, [.ref a_characters, .int zlength, .ref a_told, .int zfaultIndex, .int zfaultReason, .int zat, .ref a_wayNumbers, .ref a_wayIndexes, .int (zwayCount + 1)])), (a_told, .inr (0, [.ref a_told_owners, .ref a_told_ranks, .ref a_told_ways, .int ztold_size])), (a_told_ways, .inl (cI, 12, .inl ztold_ways)), (a_wayNumbers, .inl (cI, 80, .inl (upd zwayNumbers (Int32.toNatClampNeg zwayCount) x2))), (a_wayIndexes, .inl (cI, 80, .inl (upd zwayIndexes (Int32.toNatClampNeg zwayCount) x1)))] H := hP
    have hD : va_D A [(a0, .inr (1, [.ref a_characters, .int zlength, .ref a_told, .int zfaultIndex, .int zfaultReason, .int zat, .ref a_wayNumbers, .ref a_wayIndexes, .int (zwayCount + 1)])), (a_told, .inr (0, [.ref a_told_owners, .ref a_told_ranks, .ref a_told_ways, .int ztold_size])), (a_told_ways, .inl (cI, 12, .inl ztold_ways)), (a_wayNumbers, .inl (cI, 80, .inl (upd zwayNumbers (Int32.toNatClampNeg zwayCount) x2))), (a_wayIndexes, .inl (cI, 80, .inl (upd zwayIndexes (Int32.toNatClampNeg zwayCount) x1)))] := hD
    obtain rfl := Option.some.inj h
    exact J3 _ _ _ (lv_sub hl [0, 2] rfl) hP hD hS
def f_X2_lookAtWays_L7 (N : Nat) (x1_7 : Int32) (zcharacters_7 : Nat → Int32) (zlength_7 : Int32) (ztold_size_7 : Int32) : Nat → Int32 → (Nat → Int32) → Int32 → Int32 → Int32 → (Nat → Int32) → (Nat → Int32) → Int32 → Option ((Int32 × (Nat → Int32) × Int32 × Int32 × Int32 × (Nat → Int32) × (Nat → Int32) × Int32) ⊕ ((Nat → Int32) × Int32 × Int32 × Int32 × (Nat → Int32) × (Nat → Int32) × Int32))
  | 0, _, _, _, _, _, _, _, _ => none
  | n_7 + 1, x2_7, ztold_ways_7, zfaultIndex_7, zfaultReason_7, zat_7, zwayNumbers_7, zwayIndexes_7, zwayCount_7 =>
    if 80 ≤ x2_7 then (some (.inr (ztold_ways_7, zfaultIndex_7, zfaultReason_7, zat_7, zwayNumbers_7, zwayIndexes_7, zwayCount_7))) else (Option.bind (f_X2_digit N zcharacters_7 zlength_7 zat_7) (fun q2 => if 0 ≤ q2 then (Option.bind (α := Int32 × Int32) (if q2 ≤ 0 then (some (q2, zat_7 + 1)) else (Option.bind (f_X2_digit N zcharacters_7 zlength_7 (zat_7 + 1)) (fun q9 => if q9 < 0 then (some (q2, zat_7 + 1)) else (Option.bind (f_X2_digit N zcharacters_7 zlength_7 (zat_7 + 1)) (fun q12 => some ((q2 * 10) + q12, (zat_7 + 1) + 1)))))) (fun q6 => Option.bind (f_X2_isToldSince N x1_7 q6.1 zwayNumbers_7 zwayCount_7) (fun q14 => if q14 = 0 then (Option.bind (f_X2_tellWay N zat_7 q6.1 ztold_ways_7 ztold_size_7 zwayNumbers_7 zwayIndexes_7 zwayCount_7) (fun q17 => Option.bind (f_X2_character N zcharacters_7 zlength_7 q6.2) (fun q19 => if q19 = 44 then (f_X2_lookAtWays_L7 N x1_7 zcharacters_7 zlength_7 ztold_size_7 n_7 (x2_7 + 1) q17.1 zfaultIndex_7 zfaultReason_7 (q6.2 + 1) q17.2.1 q17.2.2.1 q17.2.2.2) else (some (.inr (q17.1, zfaultIndex_7, zfaultReason_7, q6.2, q17.2.1, q17.2.2.1, q17.2.2.2)))))) else (Option.bind (f_X2_blame N zat_7 3 zfaultIndex_7 zfaultReason_7) (fun q22 => chk (isZ q22.1) (some (.inl (q22.1, ztold_ways_7, q22.2.1, q22.2.2, q6.2, zwayNumbers_7, zwayIndexes_7, zwayCount_7)))))))) else (Option.bind (f_X2_blame N zat_7 1 zfaultIndex_7 zfaultReason_7) (fun q26 => chk (isZ q26.1) (some (.inl (q26.1, ztold_ways_7, q26.2.1, q26.2.2, zat_7, zwayNumbers_7, zwayIndexes_7, zwayCount_7)))))))
def f_X2_lookAtWays (N : Nat) (zcharacters : Nat → Int32) (zlength : Int32) (ztold_ways : Nat → Int32) (ztold_size : Int32) (zfaultIndex : Int32) (zfaultReason : Int32) (zat : Int32) (zwayNumbers : Nat → Int32) (zwayIndexes : Nat → Int32) (zwayCount : Int32) : Option (Int32 × (Nat → Int32) × Int32 × Int32 × Int32 × (Nat → Int32) × (Nat → Int32) × Int32) :=
    Option.bind (f_X2_lookAtWays_L7 N zwayCount zcharacters zlength ztold_size N 0 ztold_ways zfaultIndex zfaultReason zat zwayNumbers zwayIndexes zwayCount) (fun q31 => sm q31 some (fun t32 => some (1, t32.1, t32.2.1, t32.2.2.1, t32.2.2.2.1, t32.2.2.2.2.1, t32.2.2.2.2.2.1, t32.2.2.2.2.2.2)))
set_option maxHeartbeats 4000000 in
set_option maxRecDepth 100000 in
theorem c_X2_lookAtWays (l : Launch) (D : va_G) (cI cC cH : ClassId) (a0 : Nat) (a_characters : Nat) (a_told : Nat) (a_wayNumbers : Nat) (a_wayIndexes : Nat) (a_told_owners : Nat) (a_told_ranks : Nat) (a_told_ways : Nat) (N : Nat) (zcharacters : Nat → Int32) (zlength : Int32) (ztold_ways : Nat → Int32) (ztold_size : Int32) (zfaultIndex : Int32) (zfaultReason : Int32) (zat : Int32) (zwayNumbers : Nat → Int32) (zwayIndexes : Nat → Int32) (zwayCount : Int32) (y : Int32 × (Nat → Int32) × Int32 × Int32 × Int32 × (Nat → Int32) × (Nat → Int32) × Int32) (h : f_X2_lookAtWays N zcharacters zlength ztold_ways ztold_size zfaultIndex zfaultReason zat zwayNumbers zwayIndexes zwayCount = some y) : CTi l yX2_lookAtWays cX2_lookAtWays 5 (some .boolean) 2 44 D (tyL cI cC cH) [.ref a0] [(a0, .inr (1, [.ref a_characters, .int zlength, .ref a_told, .int zfaultIndex, .int zfaultReason, .int zat, .ref a_wayNumbers, .ref a_wayIndexes, .int zwayCount])), (a_characters, .inl (cC, 80, .inl zcharacters)), (a_told, .inr (0, [.ref a_told_owners, .ref a_told_ranks, .ref a_told_ways, .int ztold_size])), (a_told_ways, .inl (cI, 12, .inl ztold_ways)), (a_wayNumbers, .inl (cI, 80, .inl zwayNumbers)), (a_wayIndexes, .inl (cI, 80, .inl zwayIndexes))] [(a0, .inr (1, [.ref a_characters, .int zlength, .ref a_told, .int y.2.2.1, .int y.2.2.2.1, .int y.2.2.2.2.1, .ref a_wayNumbers, .ref a_wayIndexes, .int y.2.2.2.2.2.2.2])), (a_characters, .inl (cC, 80, .inl zcharacters)), (a_told, .inr (0, [.ref a_told_owners, .ref a_told_ranks, .ref a_told_ways, .int ztold_size])), (a_told_ways, .inl (cI, 12, .inl y.2.1)), (a_wayNumbers, .inl (cI, 80, .inl y.2.2.2.2.2.1)), (a_wayIndexes, .inl (cI, 80, .inl y.2.2.2.2.2.2.1))] y.1 := by
  unfold f_X2_lookAtWays at h
  refine ctZ (by decide) (Nat.le_of_ble_eq_true rfl) ?_
  intro p e s m args below meth c A Q ls F hret hP hD hS hl
  have hx := F.1
  have hb := F.2.1
  have hown : s.vm.findClass RX2 = some m.cls := F.2.2.2.1
  have hts := F.2.2.2.2.1
  have hN := F.2.2.2.2.2.1
  have hK := F.2.2.2.2.2.2.1
  have hl : lv_has ls 5 [(0, .ref a0)] := hl
  refine lv_aload_n hx hb dX2_lookAtWays_0 rfl (lv_at hl 0 rfl) ?_
  refine va_get (D := D) (ci := 1) (v := .int zwayCount) (C := RX2) (T := TX2) (N := 9) hx hb hts inG2 hown hK hP 0 rfl rfl 8 (by decide) (hts _ wd1_65) (fun _ h9 => h9) rfl dX2_lookAtWays_1 ?_
  refine lv_istore_n (lv' := [(1, .int zwayCount), (0, .ref a0)]) hx hb dX2_lookAtWays_4 rfl hl (by decide) rfl (fun ls hl => ?_)
  refine lv_iconst (v := 0) hx hb dX2_lookAtWays_5 (by decide) ?_
  refine lv_istore_n (lv' := [(2, .int 0), (1, .int zwayCount), (0, .ref a0)]) hx hb dX2_lookAtWays_6 rfl hl (by decide) rfl (fun ls hl => ?_)
  have L_7 : ∀ (n_7 : Nat) (x2_7 : Int32) (ztold_ways_7 : Nat → Int32) (zfaultIndex_7 : Int32) (zfaultReason_7 : Int32) (zat_7 : Int32) (zwayNumbers_7 : Nat → Int32) (zwayIndexes_7 : Nat → Int32) (zwayCount_7 : Int32) (q29 : ((Int32 × (Nat → Int32) × Int32 × Int32 × Int32 × (Nat → Int32) × (Nat → Int32) × Int32) ⊕ ((Nat → Int32) × Int32 × Int32 × Int32 × (Nat → Int32) × (Nat → Int32) × Int32))), f_X2_lookAtWays_L7 N zwayCount zcharacters zlength ztold_size n_7 x2_7 ztold_ways_7 zfaultIndex_7 zfaultReason_7 zat_7 zwayNumbers_7 zwayIndexes_7 zwayCount_7 = some q29 → (∀ (t30 : (Nat → Int32) × Int32 × Int32 × Int32 × (Nat → Int32) × (Nat → Int32) × Int32), q29 = .inr t30 → ∀ (ls : Array Slot) (H : Heap) (locs : List Loc), lv_has ls 5 [] → va_P D vwCl [(a0, .inr (1, [.ref a_characters, .int zlength, .ref a_told, .int t30.2.1, .int t30.2.2.1, .int t30.2.2.2.1, .ref a_wayNumbers, .ref a_wayIndexes, .int t30.2.2.2.2.2.2])), (a_characters, .inl (cC, 80, .inl zcharacters)), (a_told, .inr (0, [.ref a_told_owners, .ref a_told_ranks, .ref a_told_ways, .int ztold_size])), (a_told_ways, .inl (cI, 12, .inl t30.1)), (a_wayNumbers, .inl (cI, 80, .inl t30.2.2.2.2.1)), (a_wayIndexes, .inl (cI, 80, .inl t30.2.2.2.2.2.1))] H → va_D A [(a0, .inr (1, [.ref a_characters, .int zlength, .ref a_told, .int t30.2.1, .int t30.2.2.1, .int t30.2.2.2.1, .ref a_wayNumbers, .ref a_wayIndexes, .int t30.2.2.2.2.2.2])), (a_characters, .inl (cC, 80, .inl zcharacters)), (a_told, .inr (0, [.ref a_told_owners, .ref a_told_ranks, .ref a_told_ways, .int ztold_size])), (a_told_ways, .inl (cI, 12, .inl t30.1)), (a_wayNumbers, .inl (cI, 80, .inl t30.2.2.2.2.1)), (a_wayIndexes, .inl (cI, 80, .inl t30.2.2.2.2.2.1))] → va_S A s.heap H locs → W p l e (rmm 2 44) s m args below meth c H locs 0 0 Q (F0 m 135 ls [])) → (∀ r9, q29 = .inl r9 → r9 = y) → ∀ (ls : Array Slot) (H : Heap) (locs : List Loc), lv_has ls 5 [(0, .ref a0), (1, .int zwayCount), (2, .int x2_7)] → va_P D vwCl [(a0, .inr (1, [.ref a_characters, .int zlength, .ref a_told, .int zfaultIndex_7, .int zfaultReason_7, .int zat_7, .ref a_wayNumbers, .ref a_wayIndexes, .int zwayCount_7])), (a_characters, .inl (cC, 80, .inl zcharacters)), (a_told, .inr (0, [.ref a_told_owners, .ref a_told_ranks, .ref a_told_ways, .int ztold_size])), (a_told_ways, .inl (cI, 12, .inl ztold_ways_7)), (a_wayNumbers, .inl (cI, 80, .inl zwayNumbers_7)), (a_wayIndexes, .inl (cI, 80, .inl zwayIndexes_7))] H → va_D A [(a0, .inr (1, [.ref a_characters, .int zlength, .ref a_told, .int zfaultIndex_7, .int zfaultReason_7, .int zat_7, .ref a_wayNumbers, .ref a_wayIndexes, .int zwayCount_7])), (a_characters, .inl (cC, 80, .inl zcharacters)), (a_told, .inr (0, [.ref a_told_owners, .ref a_told_ranks, .ref a_told_ways, .int ztold_size])), (a_told_ways, .inl (cI, 12, .inl ztold_ways_7)), (a_wayNumbers, .inl (cI, 80, .inl zwayNumbers_7)), (a_wayIndexes, .inl (cI, 80, .inl zwayIndexes_7))] → va_S A s.heap H locs → W p l e (rmm 2 44) s m args below meth c H locs 0 0 Q (F0 m 7 ls []) := by
    intro  n_7
    induction n_7 with
    | zero => intro x2_7 ztold_ways_7 zfaultIndex_7 zfaultReason_7 zat_7 zwayNumbers_7 zwayIndexes_7 zwayCount_7 q29 h; exact no_s h
    | succ n_7 ih_7 =>
      intro x2_7 ztold_ways_7 zfaultIndex_7 zfaultReason_7 zat_7 zwayNumbers_7 zwayIndexes_7 zwayCount_7 q29 h J_7 hr_7 ls H locs hl hP hD hS
      rw [f_X2_lookAtWays_L7] at h
      refine lv_iload_n hx hb dX2_lookAtWays_7 rfl (lv_at hl 2 rfl) ?_
      refine lv_bipush (v := 80) hx hb dX2_lookAtWays_8 (by decide) ?_
      refine lv_icmp_ge (tgt := 135) hx hb dX2_lookAtWays_10 (by decide) (fun c1 => ?_) (fun c1 => ?_)
      · have h := itT h c1
        obtain rfl := Option.some.inj h
        exact J_7 _ rfl _ _ _ (lv_sub hl [] rfl) hP hD hS
      · have h := itF h c1
        refine lv_aload_n hx hb dX2_lookAtWays_13 rfl (lv_at hl 0 rfl) ?_
        refine va_get (D := D) (ci := 1) (v := .int zat_7) (C := RX2) (T := TX2) (N := 9) hx hb hts inG2 hown hK hP 0 rfl rfl 5 (by decide) (hts _ wd1_62) (fun _ h9 => h9) rfl dX2_lookAtWays_14 ?_
        refine lv_istore_n (lv' := [(3, .int zat_7), (0, .ref a0), (1, .int zwayCount), (2, .int x2_7)]) hx hb dX2_lookAtWays_17 rfl hl (by decide) rfl (fun ls hl => ?_)
        refine lv_aload_n hx hb dX2_lookAtWays_18 rfl (lv_at hl 1 rfl) ?_
        obtain ⟨q2, hq3, h⟩ := bd h
        refine kvI (ws' := [(a0, .inr (1, [.ref a_characters, .int zlength, .ref a_told, .int zfaultIndex_7, .int zfaultReason_7, .int zat_7, .ref a_wayNumbers, .ref a_wayIndexes, .int zwayCount_7])), (a_characters, .inl (cC, 80, .inl zcharacters)), (a_told, .inr (0, [.ref a_told_owners, .ref a_told_ranks, .ref a_told_ways, .int ztold_size])), (a_told_ways, .inl (cI, 12, .inl ztold_ways_7)), (a_wayNumbers, .inl (cI, 80, .inl zwayNumbers_7)), (a_wayIndexes, .inl (cI, 80, .inl zwayIndexes_7))]) (wr := [(a_told, .inr (0, [.ref a_told_owners, .ref a_told_ranks, .ref a_told_ways, .int ztold_size])), (a_told_ways, .inl (cI, 12, .inl ztold_ways_7)), (a_wayNumbers, .inl (cI, 80, .inl zwayNumbers_7)), (a_wayIndexes, .inl (cI, 80, .inl zwayIndexes_7))]) (As := []) F (c_X2_digit l D cI cC cH a0 a_characters a_told a_wayNumbers a_wayIndexes N zcharacters zlength zfaultIndex_7 zfaultReason_7 zat_7 zwayCount_7 q2 hq3) yfX2_digit ⟨wd2_72, wd2_74, wdp_12⟩ hP hD hS [0, 1] [2, 3, 4, 5] [4, 5, 0, 1, 2, 3] rfl rfl (by decide) (by decide) (by decide) rfl (by decide) 0 1 rfl rfl rfl ⟨Nat.le_of_ble_eq_true rfl, Nat.le_of_ble_eq_true rfl, Nat.zero_le _, Nat.zero_le _⟩ rfl hl rfl (Nat.le_of_ble_eq_true rfl) dX2_lookAtWays_19 (fun H locs hP hD hS => ?_)
        refine lv_istore (lv' := [(4, .int q2), (3, .int zat_7), (0, .ref a0), (1, .int zwayCount), (2, .int x2_7)]) hx hb dX2_lookAtWays_22 hl (by decide) rfl (fun ls hl => ?_)
        refine lv_iload hx hb dX2_lookAtWays_24 (lv_at hl 0 rfl) ?_
        refine lv_if_ge (tgt := 39) hx hb dX2_lookAtWays_26 (by decide) (fun c4 => ?_) (fun c4 => ?_)
        · have h := itT h c4
          refine lv_aload_n hx hb dX2_lookAtWays_39 rfl (lv_at hl 2 rfl) ?_
          refine lv_dup hx hb dX2_lookAtWays_40 rfl ?_
          refine va_get (D := D) (ci := 1) (v := .int zat_7) (C := RX2) (T := TX2) (N := 9) hx hb hts inG2 hown hK hP 0 rfl rfl 5 (by decide) (hts _ wd1_62) (fun _ h9 => h9) rfl dX2_lookAtWays_41 ?_
          refine lv_iconst (v := 1) hx hb dX2_lookAtWays_44 (by decide) ?_
          refine lv_iadd hx hb dX2_lookAtWays_45 ?_
          refine va_put (D := D) (ci := 1) (v := .int (zat_7 + 1)) (ty := .int) (C := RX2) (T := TX2) (N := 9) hx hb hts inG2 tyX2 tyX2_ok nmX2 hown hK hP hD hS 0 rfl rfl 5 (by decide) (hts _ wd1_62) (fun _ h9 => h9) rfl (by decide +kernel) rfl rfl (Nat.le_of_ble_eq_true rfl) dX2_lookAtWays_46 (fun H locs hP hD hS => ?_)
          have hP : va_P D vwCl [(a0, .inr (1, [.ref a_characters, .int zlength, .ref a_told, .int zfaultIndex_7, .int zfaultReason_7, .int (zat_7 + 1), .ref a_wayNumbers, .ref a_wayIndexes, .int zwayCount_7])), (a_characters, .inl (cC, 80, .inl zcharacters)), (a_told, .inr (0, [.ref a_told_owners, .ref a_told_ranks, .ref a_told_ways, .int ztold_size])), (a_told_ways, .inl (cI, 12, .inl ztold_ways_7)), (a_wayNumbers, .inl (cI, 80, .inl zwayNumbers_7)), (a_wayIndexes, .inl (cI, 80, .inl zwayIndexes_7))] H := hP
          have hD : va_D A [(a0, .inr (1, [.ref a_characters, .int zlength, .ref a_told, .int zfaultIndex_7, .int zfaultReason_7, .int (zat_7 + 1), .ref a_wayNumbers, .ref a_wayIndexes, .int zwayCount_7])), (a_characters, .inl (cC, 80, .inl zcharacters)), (a_told, .inr (0, [.ref a_told_owners, .ref a_told_ranks, .ref a_told_ways, .int ztold_size])), (a_told_ways, .inl (cI, 12, .inl ztold_ways_7)), (a_wayNumbers, .inl (cI, 80, .inl zwayNumbers_7)), (a_wayIndexes, .inl (cI, 80, .inl zwayIndexes_7))] := hD
          refine lv_iload hx hb dX2_lookAtWays_49 (lv_at hl 0 rfl) ?_
          obtain ⟨q6, hb25, h⟩ := bd h
          have J7 : ∀ (ls : Array Slot) (H : Heap) (locs : List Loc), lv_has ls 5 [(0, .ref a0), (1, .int zwayCount), (2, .int x2_7), (3, .int zat_7), (4, .int q6.1)] → va_P D vwCl [(a0, .inr (1, [.ref a_characters, .int zlength, .ref a_told, .int zfaultIndex_7, .int zfaultReason_7, .int q6.2, .ref a_wayNumbers, .ref a_wayIndexes, .int zwayCount_7])), (a_characters, .inl (cC, 80, .inl zcharacters)), (a_told, .inr (0, [.ref a_told_owners, .ref a_told_ranks, .ref a_told_ways, .int ztold_size])), (a_told_ways, .inl (cI, 12, .inl ztold_ways_7)), (a_wayNumbers, .inl (cI, 80, .inl zwayNumbers_7)), (a_wayIndexes, .inl (cI, 80, .inl zwayIndexes_7))] H → va_D A [(a0, .inr (1, [.ref a_characters, .int zlength, .ref a_told, .int zfaultIndex_7, .int zfaultReason_7, .int q6.2, .ref a_wayNumbers, .ref a_wayIndexes, .int zwayCount_7])), (a_characters, .inl (cC, 80, .inl zcharacters)), (a_told, .inr (0, [.ref a_told_owners, .ref a_told_ranks, .ref a_told_ways, .int ztold_size])), (a_told_ways, .inl (cI, 12, .inl ztold_ways_7)), (a_wayNumbers, .inl (cI, 80, .inl zwayNumbers_7)), (a_wayIndexes, .inl (cI, 80, .inl zwayIndexes_7))] → va_S A s.heap H locs → W p l e (rmm 2 44) s m args below meth c H locs 0 0 Q (F0 m 83 ls []) := by
            intro ls H locs hl hP hD hS
            refine lv_aload_n hx hb dX2_lookAtWays_83 rfl (lv_at hl 0 rfl) ?_
            refine lv_iload_n hx hb dX2_lookAtWays_84 rfl (lv_at hl 1 rfl) ?_
            refine lv_iload hx hb dX2_lookAtWays_85 (lv_at hl 4 rfl) ?_
            obtain ⟨q14, hq15, h⟩ := bd h
            refine kvI (ws' := [(a0, .inr (1, [.ref a_characters, .int zlength, .ref a_told, .int zfaultIndex_7, .int zfaultReason_7, .int q6.2, .ref a_wayNumbers, .ref a_wayIndexes, .int zwayCount_7])), (a_characters, .inl (cC, 80, .inl zcharacters)), (a_told, .inr (0, [.ref a_told_owners, .ref a_told_ranks, .ref a_told_ways, .int ztold_size])), (a_told_ways, .inl (cI, 12, .inl ztold_ways_7)), (a_wayNumbers, .inl (cI, 80, .inl zwayNumbers_7)), (a_wayIndexes, .inl (cI, 80, .inl zwayIndexes_7))]) (wr := [(a_characters, .inl (cC, 80, .inl zcharacters)), (a_told, .inr (0, [.ref a_told_owners, .ref a_told_ranks, .ref a_told_ways, .int ztold_size])), (a_told_ways, .inl (cI, 12, .inl ztold_ways_7)), (a_wayIndexes, .inl (cI, 80, .inl zwayIndexes_7))]) (As := [.int zwayCount, .int q6.1]) F (c_X2_isToldSince l D cI cC cH a0 a_characters a_told a_wayNumbers a_wayIndexes N zwayCount q6.1 zlength zfaultIndex_7 zfaultReason_7 q6.2 zwayNumbers_7 zwayCount_7 q14 hq15) yfX2_isToldSince ⟨wd2_82, wd2_84, wdp_14⟩ hP hD hS [0, 4] [1, 2, 3, 5] [4, 0, 1, 2, 5, 3] rfl rfl (by decide) (by decide) (by decide) rfl (by decide) 0 1 rfl rfl rfl ⟨Nat.le_of_ble_eq_true rfl, Nat.le_of_ble_eq_true rfl, Nat.zero_le _, Nat.zero_le _⟩ rfl hl rfl (Nat.le_of_ble_eq_true rfl) dX2_lookAtWays_87 (fun H locs hP hD hS => ?_)
            refine lv_if_eq (tgt := 100) hx hb dX2_lookAtWays_90 (by decide) (fun c16 => ?_) (fun c16 => ?_)
            · have h := itT h c16
              refine lv_aload_n hx hb dX2_lookAtWays_100 rfl (lv_at hl 0 rfl) ?_
              refine lv_iload_n hx hb dX2_lookAtWays_101 rfl (lv_at hl 3 rfl) ?_
              refine lv_iload hx hb dX2_lookAtWays_102 (lv_at hl 4 rfl) ?_
              obtain ⟨q17, hq18, h⟩ := bd h
              refine kvV (ws' := [(a0, .inr (1, [.ref a_characters, .int zlength, .ref a_told, .int zfaultIndex_7, .int zfaultReason_7, .int q6.2, .ref a_wayNumbers, .ref a_wayIndexes, .int q17.2.2.2])), (a_characters, .inl (cC, 80, .inl zcharacters)), (a_told, .inr (0, [.ref a_told_owners, .ref a_told_ranks, .ref a_told_ways, .int ztold_size])), (a_told_ways, .inl (cI, 12, .inl q17.1)), (a_wayNumbers, .inl (cI, 80, .inl q17.2.1)), (a_wayIndexes, .inl (cI, 80, .inl q17.2.2.1))]) (wr := [(a_characters, .inl (cC, 80, .inl zcharacters))]) (As := [.int zat_7, .int q6.1]) F (c_X2_tellWay l D cI cC cH a0 a_characters a_told a_wayNumbers a_wayIndexes a_told_owners a_told_ranks a_told_ways N zat_7 q6.1 zlength ztold_ways_7 ztold_size zfaultIndex_7 zfaultReason_7 q6.2 zwayNumbers_7 zwayIndexes_7 zwayCount_7 q17 hq18) yfX2_tellWay ⟨wd2_86, wd2_88, wdp_15⟩ hP hD hS [0, 2, 3, 4, 5] [1] [1, 0, 2, 3, 4, 5] rfl rfl (by decide) (by decide) (by decide) rfl (by decide) 0 1 rfl rfl rfl ⟨Nat.le_of_ble_eq_true rfl, Nat.le_of_ble_eq_true rfl, Nat.zero_le _, Nat.zero_le _⟩ rfl hl rfl (Nat.le_of_ble_eq_true rfl) dX2_lookAtWays_104 (fun H locs hP hD hS => ?_)
              refine lv_aload_n hx hb dX2_lookAtWays_107 rfl (lv_at hl 0 rfl) ?_
              obtain ⟨q19, hq20, h⟩ := bd h
              refine kvI (ws' := [(a0, .inr (1, [.ref a_characters, .int zlength, .ref a_told, .int zfaultIndex_7, .int zfaultReason_7, .int q6.2, .ref a_wayNumbers, .ref a_wayIndexes, .int q17.2.2.2])), (a_characters, .inl (cC, 80, .inl zcharacters)), (a_told, .inr (0, [.ref a_told_owners, .ref a_told_ranks, .ref a_told_ways, .int ztold_size])), (a_told_ways, .inl (cI, 12, .inl q17.1)), (a_wayNumbers, .inl (cI, 80, .inl q17.2.1)), (a_wayIndexes, .inl (cI, 80, .inl q17.2.2.1))]) (wr := [(a_told, .inr (0, [.ref a_told_owners, .ref a_told_ranks, .ref a_told_ways, .int ztold_size])), (a_told_ways, .inl (cI, 12, .inl q17.1)), (a_wayNumbers, .inl (cI, 80, .inl q17.2.1)), (a_wayIndexes, .inl (cI, 80, .inl q17.2.2.1))]) (As := []) F (c_X2_character l D cI cC cH a0 a_characters a_told a_wayNumbers a_wayIndexes N zcharacters zlength zfaultIndex_7 zfaultReason_7 q6.2 q17.2.2.2 q19 hq20) yfX2_character ⟨wd2_64, wd2_66, wdp_10⟩ hP hD hS [0, 1] [2, 3, 4, 5] [4, 5, 0, 1, 2, 3] rfl rfl (by decide) (by decide) (by decide) rfl (by decide) 0 1 rfl rfl rfl ⟨Nat.le_of_ble_eq_true rfl, Nat.le_of_ble_eq_true rfl, Nat.zero_le _, Nat.zero_le _⟩ rfl hl rfl (Nat.le_of_ble_eq_true rfl) dX2_lookAtWays_108 (fun H locs hP hD hS => ?_)
              refine lv_bipush (v := 44) hx hb dX2_lookAtWays_111 (by decide) ?_
              refine lv_icmp_eq (tgt := 119) hx hb dX2_lookAtWays_113 (by decide) (fun c21 => ?_) (fun c21 => ?_)
              · have h := itT h c21
                refine lv_aload_n hx hb dX2_lookAtWays_119 rfl (lv_at hl 0 rfl) ?_
                refine lv_dup hx hb dX2_lookAtWays_120 rfl ?_
                refine va_get (D := D) (ci := 1) (v := .int q6.2) (C := RX2) (T := TX2) (N := 9) hx hb hts inG2 hown hK hP 0 rfl rfl 5 (by decide) (hts _ wd1_62) (fun _ h9 => h9) rfl dX2_lookAtWays_121 ?_
                refine lv_iconst (v := 1) hx hb dX2_lookAtWays_124 (by decide) ?_
                refine lv_iadd hx hb dX2_lookAtWays_125 ?_
                refine va_put (D := D) (ci := 1) (v := .int (q6.2 + 1)) (ty := .int) (C := RX2) (T := TX2) (N := 9) hx hb hts inG2 tyX2 tyX2_ok nmX2 hown hK hP hD hS 0 rfl rfl 5 (by decide) (hts _ wd1_62) (fun _ h9 => h9) rfl (by decide +kernel) rfl rfl (Nat.le_of_ble_eq_true rfl) dX2_lookAtWays_126 (fun H locs hP hD hS => ?_)
                have hP : va_P D vwCl [(a0, .inr (1, [.ref a_characters, .int zlength, .ref a_told, .int zfaultIndex_7, .int zfaultReason_7, .int (q6.2 + 1), .ref a_wayNumbers, .ref a_wayIndexes, .int q17.2.2.2])), (a_characters, .inl (cC, 80, .inl zcharacters)), (a_told, .inr (0, [.ref a_told_owners, .ref a_told_ranks, .ref a_told_ways, .int ztold_size])), (a_told_ways, .inl (cI, 12, .inl q17.1)), (a_wayNumbers, .inl (cI, 80, .inl q17.2.1)), (a_wayIndexes, .inl (cI, 80, .inl q17.2.2.1))] H := hP
                have hD : va_D A [(a0, .inr (1, [.ref a_characters, .int zlength, .ref a_told, .int zfaultIndex_7, .int zfaultReason_7, .int (q6.2 + 1), .ref a_wayNumbers, .ref a_wayIndexes, .int q17.2.2.2])), (a_characters, .inl (cC, 80, .inl zcharacters)), (a_told, .inr (0, [.ref a_told_owners, .ref a_told_ranks, .ref a_told_ways, .int ztold_size])), (a_told_ways, .inl (cI, 12, .inl q17.1)), (a_wayNumbers, .inl (cI, 80, .inl q17.2.1)), (a_wayIndexes, .inl (cI, 80, .inl q17.2.2.1))] := hD
                refine lv_iinc (v := x2_7 + 1) (lv' := [(2, .int (x2_7 + 1)), (0, .ref a0), (1, .int zwayCount), (3, .int zat_7), (4, .int q6.1)]) hx hb dX2_lookAtWays_129 hl (k := 2) rfl rfl (by decide) rfl (fun ls hl => ?_)
                refine lv_goto (tgt := 7) hx hb dX2_lookAtWays_132 (by decide) ?_
                exact ih_7 (x2_7 + 1) q17.1 zfaultIndex_7 zfaultReason_7 (q6.2 + 1) q17.2.1 q17.2.2.1 q17.2.2.2 _ h J_7 hr_7 _ _ _ (lv_sub hl [1, 2, 0] rfl) hP hD hS
              · have h := itF h c21
                refine lv_goto (tgt := 135) hx hb dX2_lookAtWays_116 (by decide) ?_
                obtain rfl := Option.some.inj h
                exact J_7 _ rfl _ _ _ (lv_sub hl [] rfl) hP hD hS
            · have h := itF h c16
              refine lv_aload_n hx hb dX2_lookAtWays_93 rfl (lv_at hl 0 rfl) ?_
              refine lv_iload_n hx hb dX2_lookAtWays_94 rfl (lv_at hl 3 rfl) ?_
              refine lv_iconst (v := 3) hx hb dX2_lookAtWays_95 (by decide) ?_
              obtain ⟨q22, hq23, h⟩ := bd h
              refine kvI (ws' := [(a0, .inr (1, [.ref a_characters, .int zlength, .ref a_told, .int q22.2.1, .int q22.2.2, .int q6.2, .ref a_wayNumbers, .ref a_wayIndexes, .int zwayCount_7])), (a_characters, .inl (cC, 80, .inl zcharacters)), (a_told, .inr (0, [.ref a_told_owners, .ref a_told_ranks, .ref a_told_ways, .int ztold_size])), (a_told_ways, .inl (cI, 12, .inl ztold_ways_7)), (a_wayNumbers, .inl (cI, 80, .inl zwayNumbers_7)), (a_wayIndexes, .inl (cI, 80, .inl zwayIndexes_7))]) (wr := [(a_characters, .inl (cC, 80, .inl zcharacters)), (a_told, .inr (0, [.ref a_told_owners, .ref a_told_ranks, .ref a_told_ways, .int ztold_size])), (a_told_ways, .inl (cI, 12, .inl ztold_ways_7)), (a_wayNumbers, .inl (cI, 80, .inl zwayNumbers_7)), (a_wayIndexes, .inl (cI, 80, .inl zwayIndexes_7))]) (As := [.int zat_7, .int 3]) F (c_X2_blame l D cI cC cH a0 a_characters a_told a_wayNumbers a_wayIndexes N zat_7 3 zlength zfaultIndex_7 zfaultReason_7 q6.2 zwayCount_7 q22 hq23) yfX2_blame ⟨wd2_68, wd2_70, wdp_11⟩ hP hD hS [0] [1, 2, 3, 4, 5] [5, 0, 1, 2, 3, 4] rfl rfl (by decide) (by decide) (by decide) rfl (by decide) 0 1 rfl rfl rfl ⟨Nat.le_of_ble_eq_true rfl, Nat.le_of_ble_eq_true rfl, Nat.zero_le _, Nat.zero_le _⟩ rfl hl rfl (Nat.le_of_ble_eq_true rfl) dX2_lookAtWays_96 (fun H locs hP hD hS => ?_)
              obtain ⟨g24, h⟩ := chk_s h
              obtain rfl := Option.some.inj h
              obtain rfl := hr_7 _ rfl
              exact hret _ _ _ _ _ (isZ_n g24) rfl hP hD hS dX2_lookAtWays_99
          clear h
          have h := hb25
          clear hb25
          refine lv_if_le (tgt := 83) hx hb dX2_lookAtWays_51 (by decide) (fun c5 => ?_) (fun c5 => ?_)
          · have h := itT h c5
            obtain rfl := Option.some.inj h
            exact J7 _ _ _ (lv_sub hl [2, 3, 4, 1, 0] rfl) hP hD hS
          · have h := itF h c5
            refine lv_aload_n hx hb dX2_lookAtWays_54 rfl (lv_at hl 2 rfl) ?_
            obtain ⟨q9, hq10, h⟩ := bd h
            refine kvI (ws' := [(a0, .inr (1, [.ref a_characters, .int zlength, .ref a_told, .int zfaultIndex_7, .int zfaultReason_7, .int (zat_7 + 1), .ref a_wayNumbers, .ref a_wayIndexes, .int zwayCount_7])), (a_characters, .inl (cC, 80, .inl zcharacters)), (a_told, .inr (0, [.ref a_told_owners, .ref a_told_ranks, .ref a_told_ways, .int ztold_size])), (a_told_ways, .inl (cI, 12, .inl ztold_ways_7)), (a_wayNumbers, .inl (cI, 80, .inl zwayNumbers_7)), (a_wayIndexes, .inl (cI, 80, .inl zwayIndexes_7))]) (wr := [(a_told, .inr (0, [.ref a_told_owners, .ref a_told_ranks, .ref a_told_ways, .int ztold_size])), (a_told_ways, .inl (cI, 12, .inl ztold_ways_7)), (a_wayNumbers, .inl (cI, 80, .inl zwayNumbers_7)), (a_wayIndexes, .inl (cI, 80, .inl zwayIndexes_7))]) (As := []) F (c_X2_digit l D cI cC cH a0 a_characters a_told a_wayNumbers a_wayIndexes N zcharacters zlength zfaultIndex_7 zfaultReason_7 (zat_7 + 1) zwayCount_7 q9 hq10) yfX2_digit ⟨wd2_72, wd2_74, wdp_12⟩ hP hD hS [0, 1] [2, 3, 4, 5] [4, 5, 0, 1, 2, 3] rfl rfl (by decide) (by decide) (by decide) rfl (by decide) 0 1 rfl rfl rfl ⟨Nat.le_of_ble_eq_true rfl, Nat.le_of_ble_eq_true rfl, Nat.zero_le _, Nat.zero_le _⟩ rfl hl rfl (Nat.le_of_ble_eq_true rfl) dX2_lookAtWays_55 (fun H locs hP hD hS => ?_)
            refine lv_if_lt (tgt := 83) hx hb dX2_lookAtWays_58 (by decide) (fun c11 => ?_) (fun c11 => ?_)
            · have h := itT h c11
              obtain rfl := Option.some.inj h
              exact J7 _ _ _ (lv_sub hl [2, 3, 4, 1, 0] rfl) hP hD hS
            · have h := itF h c11
              refine lv_iload hx hb dX2_lookAtWays_61 (lv_at hl 0 rfl) ?_
              refine lv_bipush (v := 10) hx hb dX2_lookAtWays_63 (by decide) ?_
              refine lv_imul hx hb dX2_lookAtWays_65 ?_
              refine lv_aload_n hx hb dX2_lookAtWays_66 rfl (lv_at hl 2 rfl) ?_
              obtain ⟨q12, hq13, h⟩ := bd h
              refine kvI (ws' := [(a0, .inr (1, [.ref a_characters, .int zlength, .ref a_told, .int zfaultIndex_7, .int zfaultReason_7, .int (zat_7 + 1), .ref a_wayNumbers, .ref a_wayIndexes, .int zwayCount_7])), (a_characters, .inl (cC, 80, .inl zcharacters)), (a_told, .inr (0, [.ref a_told_owners, .ref a_told_ranks, .ref a_told_ways, .int ztold_size])), (a_told_ways, .inl (cI, 12, .inl ztold_ways_7)), (a_wayNumbers, .inl (cI, 80, .inl zwayNumbers_7)), (a_wayIndexes, .inl (cI, 80, .inl zwayIndexes_7))]) (wr := [(a_told, .inr (0, [.ref a_told_owners, .ref a_told_ranks, .ref a_told_ways, .int ztold_size])), (a_told_ways, .inl (cI, 12, .inl ztold_ways_7)), (a_wayNumbers, .inl (cI, 80, .inl zwayNumbers_7)), (a_wayIndexes, .inl (cI, 80, .inl zwayIndexes_7))]) (As := []) F (c_X2_digit l D cI cC cH a0 a_characters a_told a_wayNumbers a_wayIndexes N zcharacters zlength zfaultIndex_7 zfaultReason_7 (zat_7 + 1) zwayCount_7 q12 hq13) yfX2_digit ⟨wd2_72, wd2_74, wdp_12⟩ hP hD hS [0, 1] [2, 3, 4, 5] [4, 5, 0, 1, 2, 3] rfl rfl (by decide) (by decide) (by decide) rfl (by decide) 0 1 rfl rfl rfl ⟨Nat.le_of_ble_eq_true rfl, Nat.le_of_ble_eq_true rfl, Nat.zero_le _, Nat.zero_le _⟩ rfl hl rfl (Nat.le_of_ble_eq_true rfl) dX2_lookAtWays_67 (fun H locs hP hD hS => ?_)
              refine lv_iadd hx hb dX2_lookAtWays_70 ?_
              refine lv_istore (lv' := [(4, .int ((q2 * 10) + q12)), (3, .int zat_7), (0, .ref a0), (1, .int zwayCount), (2, .int x2_7)]) hx hb dX2_lookAtWays_71 hl (by decide) rfl (fun ls hl => ?_)
              refine lv_aload_n hx hb dX2_lookAtWays_73 rfl (lv_at hl 2 rfl) ?_
              refine lv_dup hx hb dX2_lookAtWays_74 rfl ?_
              refine va_get (D := D) (ci := 1) (v := .int (zat_7 + 1)) (C := RX2) (T := TX2) (N := 9) hx hb hts inG2 hown hK hP 0 rfl rfl 5 (by decide) (hts _ wd1_62) (fun _ h9 => h9) rfl dX2_lookAtWays_75 ?_
              refine lv_iconst (v := 1) hx hb dX2_lookAtWays_78 (by decide) ?_
              refine lv_iadd hx hb dX2_lookAtWays_79 ?_
              refine va_put (D := D) (ci := 1) (v := .int ((zat_7 + 1) + 1)) (ty := .int) (C := RX2) (T := TX2) (N := 9) hx hb hts inG2 tyX2 tyX2_ok nmX2 hown hK hP hD hS 0 rfl rfl 5 (by decide) (hts _ wd1_62) (fun _ h9 => h9) rfl (by decide +kernel) rfl rfl (Nat.le_of_ble_eq_true rfl) dX2_lookAtWays_80 (fun H locs hP hD hS => ?_)
              have hP : va_P D vwCl [(a0, .inr (1, [.ref a_characters, .int zlength, .ref a_told, .int zfaultIndex_7, .int zfaultReason_7, .int ((zat_7 + 1) + 1), .ref a_wayNumbers, .ref a_wayIndexes, .int zwayCount_7])), (a_characters, .inl (cC, 80, .inl zcharacters)), (a_told, .inr (0, [.ref a_told_owners, .ref a_told_ranks, .ref a_told_ways, .int ztold_size])), (a_told_ways, .inl (cI, 12, .inl ztold_ways_7)), (a_wayNumbers, .inl (cI, 80, .inl zwayNumbers_7)), (a_wayIndexes, .inl (cI, 80, .inl zwayIndexes_7))] H := hP
              have hD : va_D A [(a0, .inr (1, [.ref a_characters, .int zlength, .ref a_told, .int zfaultIndex_7, .int zfaultReason_7, .int ((zat_7 + 1) + 1), .ref a_wayNumbers, .ref a_wayIndexes, .int zwayCount_7])), (a_characters, .inl (cC, 80, .inl zcharacters)), (a_told, .inr (0, [.ref a_told_owners, .ref a_told_ranks, .ref a_told_ways, .int ztold_size])), (a_told_ways, .inl (cI, 12, .inl ztold_ways_7)), (a_wayNumbers, .inl (cI, 80, .inl zwayNumbers_7)), (a_wayIndexes, .inl (cI, 80, .inl zwayIndexes_7))] := hD
              obtain rfl := Option.some.inj h
              exact J7 _ _ _ (lv_sub hl [2, 3, 4, 1, 0] rfl) hP hD hS
        · have h := itF h c4
          refine lv_aload_n hx hb dX2_lookAtWays_29 rfl (lv_at hl 2 rfl) ?_
          refine lv_aload_n hx hb dX2_lookAtWays_30 rfl (lv_at hl 2 rfl) ?_
          refine va_get (D := D) (ci := 1) (v := .int zat_7) (C := RX2) (T := TX2) (N := 9) hx hb hts inG2 hown hK hP 0 rfl rfl 5 (by decide) (hts _ wd1_62) (fun _ h9 => h9) rfl dX2_lookAtWays_31 ?_
          refine lv_iconst (v := 1) hx hb dX2_lookAtWays_34 (by decide) ?_
          obtain ⟨q26, hq27, h⟩ := bd h
          refine kvI (ws' := [(a0, .inr (1, [.ref a_characters, .int zlength, .ref a_told, .int q26.2.1, .int q26.2.2, .int zat_7, .ref a_wayNumbers, .ref a_wayIndexes, .int zwayCount_7])), (a_characters, .inl (cC, 80, .inl zcharacters)), (a_told, .inr (0, [.ref a_told_owners, .ref a_told_ranks, .ref a_told_ways, .int ztold_size])), (a_told_ways, .inl (cI, 12, .inl ztold_ways_7)), (a_wayNumbers, .inl (cI, 80, .inl zwayNumbers_7)), (a_wayIndexes, .inl (cI, 80, .inl zwayIndexes_7))]) (wr := [(a_characters, .inl (cC, 80, .inl zcharacters)), (a_told, .inr (0, [.ref a_told_owners, .ref a_told_ranks, .ref a_told_ways, .int ztold_size])), (a_told_ways, .inl (cI, 12, .inl ztold_ways_7)), (a_wayNumbers, .inl (cI, 80, .inl zwayNumbers_7)), (a_wayIndexes, .inl (cI, 80, .inl zwayIndexes_7))]) (As := [.int zat_7, .int 1]) F (c_X2_blame l D cI cC cH a0 a_characters a_told a_wayNumbers a_wayIndexes N zat_7 1 zlength zfaultIndex_7 zfaultReason_7 zat_7 zwayCount_7 q26 hq27) yfX2_blame ⟨wd2_68, wd2_70, wdp_11⟩ hP hD hS [0] [1, 2, 3, 4, 5] [5, 0, 1, 2, 3, 4] rfl rfl (by decide) (by decide) (by decide) rfl (by decide) 0 1 rfl rfl rfl ⟨Nat.le_of_ble_eq_true rfl, Nat.le_of_ble_eq_true rfl, Nat.zero_le _, Nat.zero_le _⟩ rfl hl rfl (Nat.le_of_ble_eq_true rfl) dX2_lookAtWays_35 (fun H locs hP hD hS => ?_)
          obtain ⟨g28, h⟩ := chk_s h
          obtain rfl := Option.some.inj h
          obtain rfl := hr_7 _ rfl
          exact hret _ _ _ _ _ (isZ_n g28) rfl hP hD hS dX2_lookAtWays_38
  obtain ⟨q31, hb33, h⟩ := bd h
  have hr34 : ∀ r9, q31 = .inl r9 → r9 = y := by
    intro r9 e9
    rw [e9] at h
    exact Option.some.inj h
  refine L_7 N 0 ztold_ways zfaultIndex zfaultReason zat zwayNumbers zwayIndexes zwayCount q31 hb33 ?_ hr34 _ _ _ (lv_sub hl [2, 1, 0] rfl) hP hD hS
  intro t32 e9 ls H locs hl hP hD hS
  rw [e9] at h
  have h := sm_r h
  refine lv_iconst (v := 1) hx hb dX2_lookAtWays_135 (by decide) ?_
  obtain rfl := Option.some.inj h
  exact hret _ _ _ _ _ rfl rfl hP hD hS dX2_lookAtWays_136
def f_X2_lookAtPlace (N : Nat) (zcharacters : Nat → Int32) (zlength : Int32) (ztold_owners : Nat → Int32) (ztold_ranks : Nat → Int32) (ztold_ways : Nat → Int32) (ztold_size : Int32) (zfaultIndex : Int32) (zfaultReason : Int32) (zat : Int32) (zwayNumbers : Nat → Int32) (zwayIndexes : Nat → Int32) (zwayCount : Int32) : Option (Int32 × (Nat → Int32) × (Nat → Int32) × (Nat → Int32) × Int32 × Int32 × Int32 × Int32 × (Nat → Int32) × (Nat → Int32) × Int32) :=
    Option.bind (f_X2_character N zcharacters zlength zat) (fun q1 => Option.bind (α := Int32) (if q1 = 101 then (some (0)) else (some (1))) (fun q4 => Option.bind (α := (Int32 × (Nat → Int32) × (Nat → Int32) × (Nat → Int32) × Int32 × Int32 × Int32 × Int32 × (Nat → Int32) × (Nat → Int32) × Int32) ⊕ (Int32 × Int32)) (if q4 = 1 then (Option.bind (f_X2_character N zcharacters zlength zat) (fun q12 => if q12 = 111 then (some (.inr (zfaultIndex, zfaultReason))) else (Option.bind (f_X2_blame N zat 1 zfaultIndex zfaultReason) (fun q15 => chk (isZ q15.1) (some (.inl (q15.1, ztold_owners, ztold_ranks, ztold_ways, ztold_size, q15.2.1, q15.2.2, zat, zwayNumbers, zwayIndexes, zwayCount))))))) else (some (.inr (zfaultIndex, zfaultReason)))) (fun q8 => sm q8 some (fun t9 => Option.bind (f_X2_digit N zcharacters zlength (zat + 1)) (fun q18 => if 0 ≤ q18 then (Option.bind (f_X3_isRank N q18) (fun q21 => if q21 = 0 then (Option.bind (f_X2_blame N (zat + 1) 2 t9.1 t9.2) (fun q32 => chk (isZ q32.1) (some (q32.1, ztold_owners, ztold_ranks, ztold_ways, ztold_size, q32.2.1, q32.2.2, zat + 1, zwayNumbers, zwayIndexes, zwayCount)))) else (Option.bind (f_X0_append N q4 q18 ztold_owners ztold_ranks ztold_ways ztold_size) (fun q24 => Option.bind (f_X2_character N zcharacters zlength ((zat + 1) + 1)) (fun q26 => if q26 = 58 then (Option.bind (f_X2_lookAtWays N zcharacters zlength q24.2.2.1 q24.2.2.2 t9.1 t9.2 (((zat + 1) + 1) + 1) zwayNumbers zwayIndexes zwayCount) (fun q29 => chk (isZ q29.1) (some (q29.1, q24.1, q24.2.1, q29.2.1, q24.2.2.2, q29.2.2.1, q29.2.2.2.1, q29.2.2.2.2.1, q29.2.2.2.2.2.1, q29.2.2.2.2.2.2.1, q29.2.2.2.2.2.2.2)))) else (some (1, q24.1, q24.2.1, q24.2.2.1, q24.2.2.2, t9.1, t9.2, (zat + 1) + 1, zwayNumbers, zwayIndexes, zwayCount))))))) else (Option.bind (f_X2_blame N (zat + 1) 1 t9.1 t9.2) (fun q35 => chk (isZ q35.1) (some (q35.1, ztold_owners, ztold_ranks, ztold_ways, ztold_size, q35.2.1, q35.2.2, zat + 1, zwayNumbers, zwayIndexes, zwayCount)))))))))
set_option maxHeartbeats 4000000 in
set_option maxRecDepth 100000 in
theorem c_X2_lookAtPlace (l : Launch) (D : va_G) (cI cC cH : ClassId) (a0 : Nat) (a_characters : Nat) (a_told : Nat) (a_wayNumbers : Nat) (a_wayIndexes : Nat) (a_told_owners : Nat) (a_told_ranks : Nat) (a_told_ways : Nat) (N : Nat) (zcharacters : Nat → Int32) (zlength : Int32) (ztold_owners : Nat → Int32) (ztold_ranks : Nat → Int32) (ztold_ways : Nat → Int32) (ztold_size : Int32) (zfaultIndex : Int32) (zfaultReason : Int32) (zat : Int32) (zwayNumbers : Nat → Int32) (zwayIndexes : Nat → Int32) (zwayCount : Int32) (y : Int32 × (Nat → Int32) × (Nat → Int32) × (Nat → Int32) × Int32 × Int32 × Int32 × Int32 × (Nat → Int32) × (Nat → Int32) × Int32) (h : f_X2_lookAtPlace N zcharacters zlength ztold_owners ztold_ranks ztold_ways ztold_size zfaultIndex zfaultReason zat zwayNumbers zwayIndexes zwayCount = some y) : CTi l yX2_lookAtPlace cX2_lookAtPlace 3 (some .boolean) 3 68 D (tyL cI cC cH) [.ref a0] [(a0, .inr (1, [.ref a_characters, .int zlength, .ref a_told, .int zfaultIndex, .int zfaultReason, .int zat, .ref a_wayNumbers, .ref a_wayIndexes, .int zwayCount])), (a_characters, .inl (cC, 80, .inl zcharacters)), (a_told, .inr (0, [.ref a_told_owners, .ref a_told_ranks, .ref a_told_ways, .int ztold_size])), (a_told_owners, .inl (cI, 12, .inl ztold_owners)), (a_told_ranks, .inl (cI, 12, .inl ztold_ranks)), (a_told_ways, .inl (cI, 12, .inl ztold_ways)), (a_wayNumbers, .inl (cI, 80, .inl zwayNumbers)), (a_wayIndexes, .inl (cI, 80, .inl zwayIndexes))] [(a0, .inr (1, [.ref a_characters, .int zlength, .ref a_told, .int y.2.2.2.2.2.1, .int y.2.2.2.2.2.2.1, .int y.2.2.2.2.2.2.2.1, .ref a_wayNumbers, .ref a_wayIndexes, .int y.2.2.2.2.2.2.2.2.2.2])), (a_characters, .inl (cC, 80, .inl zcharacters)), (a_told, .inr (0, [.ref a_told_owners, .ref a_told_ranks, .ref a_told_ways, .int y.2.2.2.2.1])), (a_told_owners, .inl (cI, 12, .inl y.2.1)), (a_told_ranks, .inl (cI, 12, .inl y.2.2.1)), (a_told_ways, .inl (cI, 12, .inl y.2.2.2.1)), (a_wayNumbers, .inl (cI, 80, .inl y.2.2.2.2.2.2.2.2.1)), (a_wayIndexes, .inl (cI, 80, .inl y.2.2.2.2.2.2.2.2.2.1))] y.1 := by
  unfold f_X2_lookAtPlace at h
  refine ctZ (by decide) (Nat.le_of_ble_eq_true rfl) ?_
  intro p e s m args below meth c A Q ls F hret hP hD hS hl
  have hx := F.1
  have hb := F.2.1
  have hown : s.vm.findClass RX2 = some m.cls := F.2.2.2.1
  have hts := F.2.2.2.2.1
  have hN := F.2.2.2.2.2.1
  have hK := F.2.2.2.2.2.2.1
  have hl : lv_has ls 3 [(0, .ref a0)] := hl
  refine lv_aload_n hx hb dX2_lookAtPlace_0 rfl (lv_at hl 0 rfl) ?_
  obtain ⟨q1, hq2, h⟩ := bd h
  refine kvI (ws' := [(a0, .inr (1, [.ref a_characters, .int zlength, .ref a_told, .int zfaultIndex, .int zfaultReason, .int zat, .ref a_wayNumbers, .ref a_wayIndexes, .int zwayCount])), (a_characters, .inl (cC, 80, .inl zcharacters)), (a_told, .inr (0, [.ref a_told_owners, .ref a_told_ranks, .ref a_told_ways, .int ztold_size])), (a_told_owners, .inl (cI, 12, .inl ztold_owners)), (a_told_ranks, .inl (cI, 12, .inl ztold_ranks)), (a_told_ways, .inl (cI, 12, .inl ztold_ways)), (a_wayNumbers, .inl (cI, 80, .inl zwayNumbers)), (a_wayIndexes, .inl (cI, 80, .inl zwayIndexes))]) (wr := [(a_told, .inr (0, [.ref a_told_owners, .ref a_told_ranks, .ref a_told_ways, .int ztold_size])), (a_told_owners, .inl (cI, 12, .inl ztold_owners)), (a_told_ranks, .inl (cI, 12, .inl ztold_ranks)), (a_told_ways, .inl (cI, 12, .inl ztold_ways)), (a_wayNumbers, .inl (cI, 80, .inl zwayNumbers)), (a_wayIndexes, .inl (cI, 80, .inl zwayIndexes))]) (As := []) F (c_X2_character l D cI cC cH a0 a_characters a_told a_wayNumbers a_wayIndexes N zcharacters zlength zfaultIndex zfaultReason zat zwayCount q1 hq2) yfX2_character ⟨wd2_64, wd2_66, wdp_10⟩ hP hD hS [0, 1] [2, 3, 4, 5, 6, 7] [6, 7, 0, 1, 2, 3, 4, 5] rfl rfl (by decide) (by decide) (by decide) rfl (by decide) 0 1 rfl rfl rfl ⟨Nat.le_of_ble_eq_true rfl, Nat.le_of_ble_eq_true rfl, Nat.zero_le _, Nat.zero_le _⟩ rfl hl rfl (Nat.le_of_ble_eq_true rfl) dX2_lookAtPlace_1 (fun H locs hP hD hS => ?_)
  refine lv_bipush (v := 101) hx hb dX2_lookAtPlace_4 (by decide) ?_
  obtain ⟨q4, hb39, h⟩ := bd h
  have J5 : ∀ (ls : Array Slot) (H : Heap) (locs : List Loc), lv_has ls 3 [(0, .ref a0)] → va_P D vwCl [(a0, .inr (1, [.ref a_characters, .int zlength, .ref a_told, .int zfaultIndex, .int zfaultReason, .int zat, .ref a_wayNumbers, .ref a_wayIndexes, .int zwayCount])), (a_characters, .inl (cC, 80, .inl zcharacters)), (a_told, .inr (0, [.ref a_told_owners, .ref a_told_ranks, .ref a_told_ways, .int ztold_size])), (a_told_owners, .inl (cI, 12, .inl ztold_owners)), (a_told_ranks, .inl (cI, 12, .inl ztold_ranks)), (a_told_ways, .inl (cI, 12, .inl ztold_ways)), (a_wayNumbers, .inl (cI, 80, .inl zwayNumbers)), (a_wayIndexes, .inl (cI, 80, .inl zwayIndexes))] H → va_D A [(a0, .inr (1, [.ref a_characters, .int zlength, .ref a_told, .int zfaultIndex, .int zfaultReason, .int zat, .ref a_wayNumbers, .ref a_wayIndexes, .int zwayCount])), (a_characters, .inl (cC, 80, .inl zcharacters)), (a_told, .inr (0, [.ref a_told_owners, .ref a_told_ranks, .ref a_told_ways, .int ztold_size])), (a_told_owners, .inl (cI, 12, .inl ztold_owners)), (a_told_ranks, .inl (cI, 12, .inl ztold_ranks)), (a_told_ways, .inl (cI, 12, .inl ztold_ways)), (a_wayNumbers, .inl (cI, 80, .inl zwayNumbers)), (a_wayIndexes, .inl (cI, 80, .inl zwayIndexes))] → va_S A s.heap H locs → W p l e (rmm 3 68) s m args below meth c H locs 0 0 Q (F0 m 14 ls [.int q4]) := by
    intro ls H locs hl hP hD hS
    refine lv_istore_n (lv' := [(1, .int q4), (0, .ref a0)]) hx hb dX2_lookAtPlace_14 rfl hl (by decide) rfl (fun ls hl => ?_)
    refine lv_iload_n hx hb dX2_lookAtPlace_15 rfl (lv_at hl 0 rfl) ?_
    refine lv_iconst (v := 1) hx hb dX2_lookAtPlace_16 (by decide) ?_
    obtain ⟨q8, hb38, h⟩ := bd h
    have J10 : ∀ t9, q8 = .inr t9 → ∀ (ls : Array Slot) (H : Heap) (locs : List Loc), lv_has ls 3 [(0, .ref a0), (1, .int q4)] → va_P D vwCl [(a0, .inr (1, [.ref a_characters, .int zlength, .ref a_told, .int t9.1, .int t9.2, .int zat, .ref a_wayNumbers, .ref a_wayIndexes, .int zwayCount])), (a_characters, .inl (cC, 80, .inl zcharacters)), (a_told, .inr (0, [.ref a_told_owners, .ref a_told_ranks, .ref a_told_ways, .int ztold_size])), (a_told_owners, .inl (cI, 12, .inl ztold_owners)), (a_told_ranks, .inl (cI, 12, .inl ztold_ranks)), (a_told_ways, .inl (cI, 12, .inl ztold_ways)), (a_wayNumbers, .inl (cI, 80, .inl zwayNumbers)), (a_wayIndexes, .inl (cI, 80, .inl zwayIndexes))] H → va_D A [(a0, .inr (1, [.ref a_characters, .int zlength, .ref a_told, .int t9.1, .int t9.2, .int zat, .ref a_wayNumbers, .ref a_wayIndexes, .int zwayCount])), (a_characters, .inl (cC, 80, .inl zcharacters)), (a_told, .inr (0, [.ref a_told_owners, .ref a_told_ranks, .ref a_told_ways, .int ztold_size])), (a_told_owners, .inl (cI, 12, .inl ztold_owners)), (a_told_ranks, .inl (cI, 12, .inl ztold_ranks)), (a_told_ways, .inl (cI, 12, .inl ztold_ways)), (a_wayNumbers, .inl (cI, 80, .inl zwayNumbers)), (a_wayIndexes, .inl (cI, 80, .inl zwayIndexes))] → va_S A s.heap H locs → W p l e (rmm 3 68) s m args below meth c H locs 0 0 Q (F0 m 39 ls []) := by
      intro t9 e9 ls H locs hl hP hD hS
      rw [e9] at h
      have h := sm_r h
      refine lv_aload_n hx hb dX2_lookAtPlace_39 rfl (lv_at hl 0 rfl) ?_
      refine lv_dup hx hb dX2_lookAtPlace_40 rfl ?_
      refine va_get (D := D) (ci := 1) (v := .int zat) (C := RX2) (T := TX2) (N := 9) hx hb hts inG2 hown hK hP 0 rfl rfl 5 (by decide) (hts _ wd1_62) (fun _ h9 => h9) rfl dX2_lookAtPlace_41 ?_
      refine lv_iconst (v := 1) hx hb dX2_lookAtPlace_44 (by decide) ?_
      refine lv_iadd hx hb dX2_lookAtPlace_45 ?_
      refine va_put (D := D) (ci := 1) (v := .int (zat + 1)) (ty := .int) (C := RX2) (T := TX2) (N := 9) hx hb hts inG2 tyX2 tyX2_ok nmX2 hown hK hP hD hS 0 rfl rfl 5 (by decide) (hts _ wd1_62) (fun _ h9 => h9) rfl (by decide +kernel) rfl rfl (Nat.le_of_ble_eq_true rfl) dX2_lookAtPlace_46 (fun H locs hP hD hS => ?_)
      have hP : va_P D vwCl [(a0, .inr (1, [.ref a_characters, .int zlength, .ref a_told, .int t9.1, .int t9.2, .int (zat + 1), .ref a_wayNumbers, .ref a_wayIndexes, .int zwayCount])), (a_characters, .inl (cC, 80, .inl zcharacters)), (a_told, .inr (0, [.ref a_told_owners, .ref a_told_ranks, .ref a_told_ways, .int ztold_size])), (a_told_owners, .inl (cI, 12, .inl ztold_owners)), (a_told_ranks, .inl (cI, 12, .inl ztold_ranks)), (a_told_ways, .inl (cI, 12, .inl ztold_ways)), (a_wayNumbers, .inl (cI, 80, .inl zwayNumbers)), (a_wayIndexes, .inl (cI, 80, .inl zwayIndexes))] H := hP
      have hD : va_D A [(a0, .inr (1, [.ref a_characters, .int zlength, .ref a_told, .int t9.1, .int t9.2, .int (zat + 1), .ref a_wayNumbers, .ref a_wayIndexes, .int zwayCount])), (a_characters, .inl (cC, 80, .inl zcharacters)), (a_told, .inr (0, [.ref a_told_owners, .ref a_told_ranks, .ref a_told_ways, .int ztold_size])), (a_told_owners, .inl (cI, 12, .inl ztold_owners)), (a_told_ranks, .inl (cI, 12, .inl ztold_ranks)), (a_told_ways, .inl (cI, 12, .inl ztold_ways)), (a_wayNumbers, .inl (cI, 80, .inl zwayNumbers)), (a_wayIndexes, .inl (cI, 80, .inl zwayIndexes))] := hD
      refine lv_aload_n hx hb dX2_lookAtPlace_49 rfl (lv_at hl 0 rfl) ?_
      obtain ⟨q18, hq19, h⟩ := bd h
      refine kvI (ws' := [(a0, .inr (1, [.ref a_characters, .int zlength, .ref a_told, .int t9.1, .int t9.2, .int (zat + 1), .ref a_wayNumbers, .ref a_wayIndexes, .int zwayCount])), (a_characters, .inl (cC, 80, .inl zcharacters)), (a_told, .inr (0, [.ref a_told_owners, .ref a_told_ranks, .ref a_told_ways, .int ztold_size])), (a_told_owners, .inl (cI, 12, .inl ztold_owners)), (a_told_ranks, .inl (cI, 12, .inl ztold_ranks)), (a_told_ways, .inl (cI, 12, .inl ztold_ways)), (a_wayNumbers, .inl (cI, 80, .inl zwayNumbers)), (a_wayIndexes, .inl (cI, 80, .inl zwayIndexes))]) (wr := [(a_told, .inr (0, [.ref a_told_owners, .ref a_told_ranks, .ref a_told_ways, .int ztold_size])), (a_told_owners, .inl (cI, 12, .inl ztold_owners)), (a_told_ranks, .inl (cI, 12, .inl ztold_ranks)), (a_told_ways, .inl (cI, 12, .inl ztold_ways)), (a_wayNumbers, .inl (cI, 80, .inl zwayNumbers)), (a_wayIndexes, .inl (cI, 80, .inl zwayIndexes))]) (As := []) F (c_X2_digit l D cI cC cH a0 a_characters a_told a_wayNumbers a_wayIndexes N zcharacters zlength t9.1 t9.2 (zat + 1) zwayCount q18 hq19) yfX2_digit ⟨wd2_72, wd2_74, wdp_12⟩ hP hD hS [0, 1] [2, 3, 4, 5, 6, 7] [6, 7, 0, 1, 2, 3, 4, 5] rfl rfl (by decide) (by decide) (by decide) rfl (by decide) 0 1 rfl rfl rfl ⟨Nat.le_of_ble_eq_true rfl, Nat.le_of_ble_eq_true rfl, Nat.zero_le _, Nat.zero_le _⟩ rfl hl rfl (Nat.le_of_ble_eq_true rfl) dX2_lookAtPlace_50 (fun H locs hP hD hS => ?_)
      refine lv_istore_n (lv' := [(2, .int q18), (0, .ref a0), (1, .int q4)]) hx hb dX2_lookAtPlace_53 rfl hl (by decide) rfl (fun ls hl => ?_)
      refine lv_iload_n hx hb dX2_lookAtPlace_54 rfl (lv_at hl 0 rfl) ?_
      refine lv_if_ge (tgt := 68) hx hb dX2_lookAtPlace_55 (by decide) (fun c20 => ?_) (fun c20 => ?_)
      · have h := itT h c20
        refine lv_iload_n hx hb dX2_lookAtPlace_68 rfl (lv_at hl 0 rfl) ?_
        obtain ⟨q21, hq22, h⟩ := bd h
        refine knI (As := [.int q18]) F (c_X3_isRank l D cI cC cH  N q18 q21 hq22) yfX3_isRank wd1_231 hN.2 hP hD hS ⟨Nat.le_of_ble_eq_true rfl, Nat.le_of_ble_eq_true rfl, Nat.zero_le _, Nat.zero_le _⟩ rfl hl rfl (Nat.le_of_ble_eq_true rfl) dX2_lookAtPlace_69 (fun H locs hP hD hS => ?_)
        refine lv_if_ne (tgt := 85) hx hb dX2_lookAtPlace_72 (by decide) (fun c23 => ?_) (fun c23 => ?_)
        · have h := itF h c23
          refine lv_aload_n hx hb dX2_lookAtPlace_85 rfl (lv_at hl 1 rfl) ?_
          refine lv_dup hx hb dX2_lookAtPlace_86 rfl ?_
          refine va_get (D := D) (ci := 1) (v := .int (zat + 1)) (C := RX2) (T := TX2) (N := 9) hx hb hts inG2 hown hK hP 0 rfl rfl 5 (by decide) (hts _ wd1_62) (fun _ h9 => h9) rfl dX2_lookAtPlace_87 ?_
          refine lv_iconst (v := 1) hx hb dX2_lookAtPlace_90 (by decide) ?_
          refine lv_iadd hx hb dX2_lookAtPlace_91 ?_
          refine va_put (D := D) (ci := 1) (v := .int ((zat + 1) + 1)) (ty := .int) (C := RX2) (T := TX2) (N := 9) hx hb hts inG2 tyX2 tyX2_ok nmX2 hown hK hP hD hS 0 rfl rfl 5 (by decide) (hts _ wd1_62) (fun _ h9 => h9) rfl (by decide +kernel) rfl rfl (Nat.le_of_ble_eq_true rfl) dX2_lookAtPlace_92 (fun H locs hP hD hS => ?_)
          have hP : va_P D vwCl [(a0, .inr (1, [.ref a_characters, .int zlength, .ref a_told, .int t9.1, .int t9.2, .int ((zat + 1) + 1), .ref a_wayNumbers, .ref a_wayIndexes, .int zwayCount])), (a_characters, .inl (cC, 80, .inl zcharacters)), (a_told, .inr (0, [.ref a_told_owners, .ref a_told_ranks, .ref a_told_ways, .int ztold_size])), (a_told_owners, .inl (cI, 12, .inl ztold_owners)), (a_told_ranks, .inl (cI, 12, .inl ztold_ranks)), (a_told_ways, .inl (cI, 12, .inl ztold_ways)), (a_wayNumbers, .inl (cI, 80, .inl zwayNumbers)), (a_wayIndexes, .inl (cI, 80, .inl zwayIndexes))] H := hP
          have hD : va_D A [(a0, .inr (1, [.ref a_characters, .int zlength, .ref a_told, .int t9.1, .int t9.2, .int ((zat + 1) + 1), .ref a_wayNumbers, .ref a_wayIndexes, .int zwayCount])), (a_characters, .inl (cC, 80, .inl zcharacters)), (a_told, .inr (0, [.ref a_told_owners, .ref a_told_ranks, .ref a_told_ways, .int ztold_size])), (a_told_owners, .inl (cI, 12, .inl ztold_owners)), (a_told_ranks, .inl (cI, 12, .inl ztold_ranks)), (a_told_ways, .inl (cI, 12, .inl ztold_ways)), (a_wayNumbers, .inl (cI, 80, .inl zwayNumbers)), (a_wayIndexes, .inl (cI, 80, .inl zwayIndexes))] := hD
          refine lv_aload_n hx hb dX2_lookAtPlace_95 rfl (lv_at hl 1 rfl) ?_
          refine va_get (D := D) (ci := 1) (v := .ref a_told) (C := RX2) (T := TX2) (N := 9) hx hb hts inG2 hown hK hP 0 rfl rfl 2 (by decide) (hts _ wd1_56) (fun _ h9 => h9) rfl dX2_lookAtPlace_96 ?_
          refine lv_iload_n hx hb dX2_lookAtPlace_99 rfl (lv_at hl 2 rfl) ?_
          refine lv_iload_n hx hb dX2_lookAtPlace_100 rfl (lv_at hl 0 rfl) ?_
          obtain ⟨q24, hq25, h⟩ := bd h
          refine kvV (ws' := [(a0, .inr (1, [.ref a_characters, .int zlength, .ref a_told, .int t9.1, .int t9.2, .int ((zat + 1) + 1), .ref a_wayNumbers, .ref a_wayIndexes, .int zwayCount])), (a_characters, .inl (cC, 80, .inl zcharacters)), (a_told, .inr (0, [.ref a_told_owners, .ref a_told_ranks, .ref a_told_ways, .int q24.2.2.2])), (a_told_owners, .inl (cI, 12, .inl q24.1)), (a_told_ranks, .inl (cI, 12, .inl q24.2.1)), (a_told_ways, .inl (cI, 12, .inl q24.2.2.1)), (a_wayNumbers, .inl (cI, 80, .inl zwayNumbers)), (a_wayIndexes, .inl (cI, 80, .inl zwayIndexes))]) (wr := [(a0, .inr (1, [.ref a_characters, .int zlength, .ref a_told, .int t9.1, .int t9.2, .int ((zat + 1) + 1), .ref a_wayNumbers, .ref a_wayIndexes, .int zwayCount])), (a_characters, .inl (cC, 80, .inl zcharacters)), (a_wayNumbers, .inl (cI, 80, .inl zwayNumbers)), (a_wayIndexes, .inl (cI, 80, .inl zwayIndexes))]) (As := [.int q4, .int q18]) F (c_X0_append l D cI cC cH a_told a_told_owners a_told_ranks a_told_ways N q4 q18 ztold_owners ztold_ranks ztold_ways ztold_size q24 hq25) yfX0_append ⟨wd2_77, wd2_6, wd2_7⟩ hP hD hS [2, 3, 4, 5] [0, 1, 6, 7] [0, 1, 4, 5, 6, 7, 2, 3] rfl rfl (by decide) (by decide) (by decide) rfl (by decide) 2 0 rfl rfl rfl ⟨Nat.le_of_ble_eq_true rfl, Nat.le_of_ble_eq_true rfl, Nat.zero_le _, Nat.zero_le _⟩ rfl hl rfl (Nat.le_of_ble_eq_true rfl) dX2_lookAtPlace_101 (fun H locs hP hD hS => ?_)
          refine lv_aload_n hx hb dX2_lookAtPlace_104 rfl (lv_at hl 1 rfl) ?_
          obtain ⟨q26, hq27, h⟩ := bd h
          refine kvI (ws' := [(a0, .inr (1, [.ref a_characters, .int zlength, .ref a_told, .int t9.1, .int t9.2, .int ((zat + 1) + 1), .ref a_wayNumbers, .ref a_wayIndexes, .int zwayCount])), (a_characters, .inl (cC, 80, .inl zcharacters)), (a_told, .inr (0, [.ref a_told_owners, .ref a_told_ranks, .ref a_told_ways, .int q24.2.2.2])), (a_told_owners, .inl (cI, 12, .inl q24.1)), (a_told_ranks, .inl (cI, 12, .inl q24.2.1)), (a_told_ways, .inl (cI, 12, .inl q24.2.2.1)), (a_wayNumbers, .inl (cI, 80, .inl zwayNumbers)), (a_wayIndexes, .inl (cI, 80, .inl zwayIndexes))]) (wr := [(a_told, .inr (0, [.ref a_told_owners, .ref a_told_ranks, .ref a_told_ways, .int q24.2.2.2])), (a_told_owners, .inl (cI, 12, .inl q24.1)), (a_told_ranks, .inl (cI, 12, .inl q24.2.1)), (a_told_ways, .inl (cI, 12, .inl q24.2.2.1)), (a_wayNumbers, .inl (cI, 80, .inl zwayNumbers)), (a_wayIndexes, .inl (cI, 80, .inl zwayIndexes))]) (As := []) F (c_X2_character l D cI cC cH a0 a_characters a_told a_wayNumbers a_wayIndexes N zcharacters zlength t9.1 t9.2 ((zat + 1) + 1) zwayCount q26 hq27) yfX2_character ⟨wd2_64, wd2_66, wdp_10⟩ hP hD hS [0, 1] [2, 3, 4, 5, 6, 7] [6, 7, 0, 1, 2, 3, 4, 5] rfl rfl (by decide) (by decide) (by decide) rfl (by decide) 0 1 rfl rfl rfl ⟨Nat.le_of_ble_eq_true rfl, Nat.le_of_ble_eq_true rfl, Nat.zero_le _, Nat.zero_le _⟩ rfl hl rfl (Nat.le_of_ble_eq_true rfl) dX2_lookAtPlace_105 (fun H locs hP hD hS => ?_)
          refine lv_bipush (v := 58) hx hb dX2_lookAtPlace_108 (by decide) ?_
          refine lv_icmp_eq (tgt := 115) hx hb dX2_lookAtPlace_110 (by decide) (fun c28 => ?_) (fun c28 => ?_)
          · have h := itT h c28
            refine lv_aload_n hx hb dX2_lookAtPlace_115 rfl (lv_at hl 1 rfl) ?_
            refine lv_dup hx hb dX2_lookAtPlace_116 rfl ?_
            refine va_get (D := D) (ci := 1) (v := .int ((zat + 1) + 1)) (C := RX2) (T := TX2) (N := 9) hx hb hts inG2 hown hK hP 0 rfl rfl 5 (by decide) (hts _ wd1_62) (fun _ h9 => h9) rfl dX2_lookAtPlace_117 ?_
            refine lv_iconst (v := 1) hx hb dX2_lookAtPlace_120 (by decide) ?_
            refine lv_iadd hx hb dX2_lookAtPlace_121 ?_
            refine va_put (D := D) (ci := 1) (v := .int (((zat + 1) + 1) + 1)) (ty := .int) (C := RX2) (T := TX2) (N := 9) hx hb hts inG2 tyX2 tyX2_ok nmX2 hown hK hP hD hS 0 rfl rfl 5 (by decide) (hts _ wd1_62) (fun _ h9 => h9) rfl (by decide +kernel) rfl rfl (Nat.le_of_ble_eq_true rfl) dX2_lookAtPlace_122 (fun H locs hP hD hS => ?_)
            have hP : va_P D vwCl [(a0, .inr (1, [.ref a_characters, .int zlength, .ref a_told, .int t9.1, .int t9.2, .int (((zat + 1) + 1) + 1), .ref a_wayNumbers, .ref a_wayIndexes, .int zwayCount])), (a_characters, .inl (cC, 80, .inl zcharacters)), (a_told, .inr (0, [.ref a_told_owners, .ref a_told_ranks, .ref a_told_ways, .int q24.2.2.2])), (a_told_owners, .inl (cI, 12, .inl q24.1)), (a_told_ranks, .inl (cI, 12, .inl q24.2.1)), (a_told_ways, .inl (cI, 12, .inl q24.2.2.1)), (a_wayNumbers, .inl (cI, 80, .inl zwayNumbers)), (a_wayIndexes, .inl (cI, 80, .inl zwayIndexes))] H := hP
            have hD : va_D A [(a0, .inr (1, [.ref a_characters, .int zlength, .ref a_told, .int t9.1, .int t9.2, .int (((zat + 1) + 1) + 1), .ref a_wayNumbers, .ref a_wayIndexes, .int zwayCount])), (a_characters, .inl (cC, 80, .inl zcharacters)), (a_told, .inr (0, [.ref a_told_owners, .ref a_told_ranks, .ref a_told_ways, .int q24.2.2.2])), (a_told_owners, .inl (cI, 12, .inl q24.1)), (a_told_ranks, .inl (cI, 12, .inl q24.2.1)), (a_told_ways, .inl (cI, 12, .inl q24.2.2.1)), (a_wayNumbers, .inl (cI, 80, .inl zwayNumbers)), (a_wayIndexes, .inl (cI, 80, .inl zwayIndexes))] := hD
            refine lv_aload_n hx hb dX2_lookAtPlace_125 rfl (lv_at hl 1 rfl) ?_
            obtain ⟨q29, hq30, h⟩ := bd h
            refine kvI (ws' := [(a0, .inr (1, [.ref a_characters, .int zlength, .ref a_told, .int q29.2.2.1, .int q29.2.2.2.1, .int q29.2.2.2.2.1, .ref a_wayNumbers, .ref a_wayIndexes, .int q29.2.2.2.2.2.2.2])), (a_characters, .inl (cC, 80, .inl zcharacters)), (a_told, .inr (0, [.ref a_told_owners, .ref a_told_ranks, .ref a_told_ways, .int q24.2.2.2])), (a_told_owners, .inl (cI, 12, .inl q24.1)), (a_told_ranks, .inl (cI, 12, .inl q24.2.1)), (a_told_ways, .inl (cI, 12, .inl q29.2.1)), (a_wayNumbers, .inl (cI, 80, .inl q29.2.2.2.2.2.1)), (a_wayIndexes, .inl (cI, 80, .inl q29.2.2.2.2.2.2.1))]) (wr := [(a_told_owners, .inl (cI, 12, .inl q24.1)), (a_told_ranks, .inl (cI, 12, .inl q24.2.1))]) (As := []) F (c_X2_lookAtWays l D cI cC cH a0 a_characters a_told a_wayNumbers a_wayIndexes a_told_owners a_told_ranks a_told_ways N zcharacters zlength q24.2.2.1 q24.2.2.2 t9.1 t9.2 (((zat + 1) + 1) + 1) zwayNumbers zwayIndexes zwayCount q29 hq30) yfX2_lookAtWays ⟨wd2_78, wd2_80, wdp_13⟩ hP hD hS [0, 1, 2, 5, 6, 7] [3, 4] [2, 3, 4, 0, 1, 5, 6, 7] rfl rfl (by decide) (by decide) (by decide) rfl (by decide) 0 1 rfl rfl rfl ⟨Nat.le_of_ble_eq_true rfl, Nat.le_of_ble_eq_true rfl, Nat.zero_le _, Nat.zero_le _⟩ rfl hl rfl (Nat.le_of_ble_eq_true rfl) dX2_lookAtPlace_126 (fun H locs hP hD hS => ?_)
            obtain ⟨g31, h⟩ := chk_s h
            obtain rfl := Option.some.inj h
            exact hret _ _ _ _ _ (isZ_n g31) rfl hP hD hS dX2_lookAtPlace_129
          · have h := itF h c28
            refine lv_iconst (v := 1) hx hb dX2_lookAtPlace_113 (by decide) ?_
            obtain rfl := Option.some.inj h
            exact hret _ _ _ _ _ rfl rfl hP hD hS dX2_lookAtPlace_114
        · have h := itT h c23
          refine lv_aload_n hx hb dX2_lookAtPlace_75 rfl (lv_at hl 1 rfl) ?_
          refine lv_aload_n hx hb dX2_lookAtPlace_76 rfl (lv_at hl 1 rfl) ?_
          refine va_get (D := D) (ci := 1) (v := .int (zat + 1)) (C := RX2) (T := TX2) (N := 9) hx hb hts inG2 hown hK hP 0 rfl rfl 5 (by decide) (hts _ wd1_62) (fun _ h9 => h9) rfl dX2_lookAtPlace_77 ?_
          refine lv_iconst (v := 2) hx hb dX2_lookAtPlace_80 (by decide) ?_
          obtain ⟨q32, hq33, h⟩ := bd h
          refine kvI (ws' := [(a0, .inr (1, [.ref a_characters, .int zlength, .ref a_told, .int q32.2.1, .int q32.2.2, .int (zat + 1), .ref a_wayNumbers, .ref a_wayIndexes, .int zwayCount])), (a_characters, .inl (cC, 80, .inl zcharacters)), (a_told, .inr (0, [.ref a_told_owners, .ref a_told_ranks, .ref a_told_ways, .int ztold_size])), (a_told_owners, .inl (cI, 12, .inl ztold_owners)), (a_told_ranks, .inl (cI, 12, .inl ztold_ranks)), (a_told_ways, .inl (cI, 12, .inl ztold_ways)), (a_wayNumbers, .inl (cI, 80, .inl zwayNumbers)), (a_wayIndexes, .inl (cI, 80, .inl zwayIndexes))]) (wr := [(a_characters, .inl (cC, 80, .inl zcharacters)), (a_told, .inr (0, [.ref a_told_owners, .ref a_told_ranks, .ref a_told_ways, .int ztold_size])), (a_told_owners, .inl (cI, 12, .inl ztold_owners)), (a_told_ranks, .inl (cI, 12, .inl ztold_ranks)), (a_told_ways, .inl (cI, 12, .inl ztold_ways)), (a_wayNumbers, .inl (cI, 80, .inl zwayNumbers)), (a_wayIndexes, .inl (cI, 80, .inl zwayIndexes))]) (As := [.int (zat + 1), .int 2]) F (c_X2_blame l D cI cC cH a0 a_characters a_told a_wayNumbers a_wayIndexes N (zat + 1) 2 zlength t9.1 t9.2 (zat + 1) zwayCount q32 hq33) yfX2_blame ⟨wd2_68, wd2_70, wdp_11⟩ hP hD hS [0] [1, 2, 3, 4, 5, 6, 7] [7, 0, 1, 2, 3, 4, 5, 6] rfl rfl (by decide) (by decide) (by decide) rfl (by decide) 0 1 rfl rfl rfl ⟨Nat.le_of_ble_eq_true rfl, Nat.le_of_ble_eq_true rfl, Nat.zero_le _, Nat.zero_le _⟩ rfl hl rfl (Nat.le_of_ble_eq_true rfl) dX2_lookAtPlace_81 (fun H locs hP hD hS => ?_)
          obtain ⟨g34, h⟩ := chk_s h
          obtain rfl := Option.some.inj h
          exact hret _ _ _ _ _ (isZ_n g34) rfl hP hD hS dX2_lookAtPlace_84
      · have h := itF h c20
        refine lv_aload_n hx hb dX2_lookAtPlace_58 rfl (lv_at hl 1 rfl) ?_
        refine lv_aload_n hx hb dX2_lookAtPlace_59 rfl (lv_at hl 1 rfl) ?_
        refine va_get (D := D) (ci := 1) (v := .int (zat + 1)) (C := RX2) (T := TX2) (N := 9) hx hb hts inG2 hown hK hP 0 rfl rfl 5 (by decide) (hts _ wd1_62) (fun _ h9 => h9) rfl dX2_lookAtPlace_60 ?_
        refine lv_iconst (v := 1) hx hb dX2_lookAtPlace_63 (by decide) ?_
        obtain ⟨q35, hq36, h⟩ := bd h
        refine kvI (ws' := [(a0, .inr (1, [.ref a_characters, .int zlength, .ref a_told, .int q35.2.1, .int q35.2.2, .int (zat + 1), .ref a_wayNumbers, .ref a_wayIndexes, .int zwayCount])), (a_characters, .inl (cC, 80, .inl zcharacters)), (a_told, .inr (0, [.ref a_told_owners, .ref a_told_ranks, .ref a_told_ways, .int ztold_size])), (a_told_owners, .inl (cI, 12, .inl ztold_owners)), (a_told_ranks, .inl (cI, 12, .inl ztold_ranks)), (a_told_ways, .inl (cI, 12, .inl ztold_ways)), (a_wayNumbers, .inl (cI, 80, .inl zwayNumbers)), (a_wayIndexes, .inl (cI, 80, .inl zwayIndexes))]) (wr := [(a_characters, .inl (cC, 80, .inl zcharacters)), (a_told, .inr (0, [.ref a_told_owners, .ref a_told_ranks, .ref a_told_ways, .int ztold_size])), (a_told_owners, .inl (cI, 12, .inl ztold_owners)), (a_told_ranks, .inl (cI, 12, .inl ztold_ranks)), (a_told_ways, .inl (cI, 12, .inl ztold_ways)), (a_wayNumbers, .inl (cI, 80, .inl zwayNumbers)), (a_wayIndexes, .inl (cI, 80, .inl zwayIndexes))]) (As := [.int (zat + 1), .int 1]) F (c_X2_blame l D cI cC cH a0 a_characters a_told a_wayNumbers a_wayIndexes N (zat + 1) 1 zlength t9.1 t9.2 (zat + 1) zwayCount q35 hq36) yfX2_blame ⟨wd2_68, wd2_70, wdp_11⟩ hP hD hS [0] [1, 2, 3, 4, 5, 6, 7] [7, 0, 1, 2, 3, 4, 5, 6] rfl rfl (by decide) (by decide) (by decide) rfl (by decide) 0 1 rfl rfl rfl ⟨Nat.le_of_ble_eq_true rfl, Nat.le_of_ble_eq_true rfl, Nat.zero_le _, Nat.zero_le _⟩ rfl hl rfl (Nat.le_of_ble_eq_true rfl) dX2_lookAtPlace_64 (fun H locs hP hD hS => ?_)
        obtain ⟨g37, h⟩ := chk_s h
        obtain rfl := Option.some.inj h
        exact hret _ _ _ _ _ (isZ_n g37) rfl hP hD hS dX2_lookAtPlace_67
    have hr11 : ∀ r9, q8 = .inl r9 → r9 = y := by
      intro r9 e9
      rw [e9] at h
      exact Option.some.inj h
    clear h
    have h := hb38
    clear hb38
    refine lv_icmp_ne (tgt := 39) hx hb dX2_lookAtPlace_17 (by decide) (fun c7 => ?_) (fun c7 => ?_)
    · have h := itF h c7
      obtain rfl := Option.some.inj h
      exact J10 _ rfl _ _ _ (lv_sub hl [1, 0] rfl) hP hD hS
    · have h := itT h c7
      refine lv_aload_n hx hb dX2_lookAtPlace_20 rfl (lv_at hl 1 rfl) ?_
      obtain ⟨q12, hq13, h⟩ := bd h
      refine kvI (ws' := [(a0, .inr (1, [.ref a_characters, .int zlength, .ref a_told, .int zfaultIndex, .int zfaultReason, .int zat, .ref a_wayNumbers, .ref a_wayIndexes, .int zwayCount])), (a_characters, .inl (cC, 80, .inl zcharacters)), (a_told, .inr (0, [.ref a_told_owners, .ref a_told_ranks, .ref a_told_ways, .int ztold_size])), (a_told_owners, .inl (cI, 12, .inl ztold_owners)), (a_told_ranks, .inl (cI, 12, .inl ztold_ranks)), (a_told_ways, .inl (cI, 12, .inl ztold_ways)), (a_wayNumbers, .inl (cI, 80, .inl zwayNumbers)), (a_wayIndexes, .inl (cI, 80, .inl zwayIndexes))]) (wr := [(a_told, .inr (0, [.ref a_told_owners, .ref a_told_ranks, .ref a_told_ways, .int ztold_size])), (a_told_owners, .inl (cI, 12, .inl ztold_owners)), (a_told_ranks, .inl (cI, 12, .inl ztold_ranks)), (a_told_ways, .inl (cI, 12, .inl ztold_ways)), (a_wayNumbers, .inl (cI, 80, .inl zwayNumbers)), (a_wayIndexes, .inl (cI, 80, .inl zwayIndexes))]) (As := []) F (c_X2_character l D cI cC cH a0 a_characters a_told a_wayNumbers a_wayIndexes N zcharacters zlength zfaultIndex zfaultReason zat zwayCount q12 hq13) yfX2_character ⟨wd2_64, wd2_66, wdp_10⟩ hP hD hS [0, 1] [2, 3, 4, 5, 6, 7] [6, 7, 0, 1, 2, 3, 4, 5] rfl rfl (by decide) (by decide) (by decide) rfl (by decide) 0 1 rfl rfl rfl ⟨Nat.le_of_ble_eq_true rfl, Nat.le_of_ble_eq_true rfl, Nat.zero_le _, Nat.zero_le _⟩ rfl hl rfl (Nat.le_of_ble_eq_true rfl) dX2_lookAtPlace_21 (fun H locs hP hD hS => ?_)
      refine lv_bipush (v := 111) hx hb dX2_lookAtPlace_24 (by decide) ?_
      refine lv_icmp_eq (tgt := 39) hx hb dX2_lookAtPlace_26 (by decide) (fun c14 => ?_) (fun c14 => ?_)
      · have h := itT h c14
        obtain rfl := Option.some.inj h
        exact J10 _ rfl _ _ _ (lv_sub hl [1, 0] rfl) hP hD hS
      · have h := itF h c14
        refine lv_aload_n hx hb dX2_lookAtPlace_29 rfl (lv_at hl 1 rfl) ?_
        refine lv_aload_n hx hb dX2_lookAtPlace_30 rfl (lv_at hl 1 rfl) ?_
        refine va_get (D := D) (ci := 1) (v := .int zat) (C := RX2) (T := TX2) (N := 9) hx hb hts inG2 hown hK hP 0 rfl rfl 5 (by decide) (hts _ wd1_62) (fun _ h9 => h9) rfl dX2_lookAtPlace_31 ?_
        refine lv_iconst (v := 1) hx hb dX2_lookAtPlace_34 (by decide) ?_
        obtain ⟨q15, hq16, h⟩ := bd h
        refine kvI (ws' := [(a0, .inr (1, [.ref a_characters, .int zlength, .ref a_told, .int q15.2.1, .int q15.2.2, .int zat, .ref a_wayNumbers, .ref a_wayIndexes, .int zwayCount])), (a_characters, .inl (cC, 80, .inl zcharacters)), (a_told, .inr (0, [.ref a_told_owners, .ref a_told_ranks, .ref a_told_ways, .int ztold_size])), (a_told_owners, .inl (cI, 12, .inl ztold_owners)), (a_told_ranks, .inl (cI, 12, .inl ztold_ranks)), (a_told_ways, .inl (cI, 12, .inl ztold_ways)), (a_wayNumbers, .inl (cI, 80, .inl zwayNumbers)), (a_wayIndexes, .inl (cI, 80, .inl zwayIndexes))]) (wr := [(a_characters, .inl (cC, 80, .inl zcharacters)), (a_told, .inr (0, [.ref a_told_owners, .ref a_told_ranks, .ref a_told_ways, .int ztold_size])), (a_told_owners, .inl (cI, 12, .inl ztold_owners)), (a_told_ranks, .inl (cI, 12, .inl ztold_ranks)), (a_told_ways, .inl (cI, 12, .inl ztold_ways)), (a_wayNumbers, .inl (cI, 80, .inl zwayNumbers)), (a_wayIndexes, .inl (cI, 80, .inl zwayIndexes))]) (As := [.int zat, .int 1]) F (c_X2_blame l D cI cC cH a0 a_characters a_told a_wayNumbers a_wayIndexes N zat 1 zlength zfaultIndex zfaultReason zat zwayCount q15 hq16) yfX2_blame ⟨wd2_68, wd2_70, wdp_11⟩ hP hD hS [0] [1, 2, 3, 4, 5, 6, 7] [7, 0, 1, 2, 3, 4, 5, 6] rfl rfl (by decide) (by decide) (by decide) rfl (by decide) 0 1 rfl rfl rfl ⟨Nat.le_of_ble_eq_true rfl, Nat.le_of_ble_eq_true rfl, Nat.zero_le _, Nat.zero_le _⟩ rfl hl rfl (Nat.le_of_ble_eq_true rfl) dX2_lookAtPlace_35 (fun H locs hP hD hS => ?_)
        obtain ⟨g17, h⟩ := chk_s h
        obtain rfl := Option.some.inj h
        obtain rfl := hr11 _ rfl
        exact hret _ _ _ _ _ (isZ_n g17) rfl hP hD hS dX2_lookAtPlace_38
  clear h
  have h := hb39
  clear hb39
  refine lv_icmp_ne (tgt := 13) hx hb dX2_lookAtPlace_6 (by decide) (fun c3 => ?_) (fun c3 => ?_)
  · have h := itF h c3
    refine lv_iconst (v := 1) hx hb dX2_lookAtPlace_13 (by decide) ?_
    obtain rfl := Option.some.inj h
    exact J5 _ _ _ (lv_sub hl [0] rfl) hP hD hS
  · have h := itT h c3
    refine lv_iconst (v := 0) hx hb dX2_lookAtPlace_9 (by decide) ?_
    refine lv_goto (tgt := 14) hx hb dX2_lookAtPlace_10 (by decide) ?_
    obtain rfl := Option.some.inj h
    exact J5 _ _ _ (lv_sub hl [0] rfl) hP hD hS
def f_X2_lookAtPlaces_L2 (N : Nat) (zcharacters_2 : Nat → Int32) (zlength_2 : Int32) : Nat → Int32 → (Nat → Int32) → (Nat → Int32) → (Nat → Int32) → Int32 → Int32 → Int32 → Int32 → (Nat → Int32) → (Nat → Int32) → Int32 → Option ((Int32 × (Nat → Int32) × (Nat → Int32) × (Nat → Int32) × Int32 × Int32 × Int32 × Int32 × (Nat → Int32) × (Nat → Int32) × Int32) ⊕ ((Nat → Int32) × (Nat → Int32) × (Nat → Int32) × Int32 × Int32 × Int32 × Int32 × (Nat → Int32) × (Nat → Int32) × Int32))
  | 0, _, _, _, _, _, _, _, _, _, _, _ => none
  | n_2 + 1, x1_2, ztold_owners_2, ztold_ranks_2, ztold_ways_2, ztold_size_2, zfaultIndex_2, zfaultReason_2, zat_2, zwayNumbers_2, zwayIndexes_2, zwayCount_2 =>
    if 12 ≤ x1_2 then (some (.inr (ztold_owners_2, ztold_ranks_2, ztold_ways_2, ztold_size_2, zfaultIndex_2, zfaultReason_2, zat_2, zwayNumbers_2, zwayIndexes_2, zwayCount_2))) else (Option.bind (f_X2_lookAtPlace N zcharacters_2 zlength_2 ztold_owners_2 ztold_ranks_2 ztold_ways_2 ztold_size_2 zfaultIndex_2 zfaultReason_2 zat_2 zwayNumbers_2 zwayIndexes_2 zwayCount_2) (fun q2 => if q2.1 = 0 then (some (.inl (0, q2.2.1, q2.2.2.1, q2.2.2.2.1, q2.2.2.2.2.1, q2.2.2.2.2.2.1, q2.2.2.2.2.2.2.1, q2.2.2.2.2.2.2.2.1, q2.2.2.2.2.2.2.2.2.1, q2.2.2.2.2.2.2.2.2.2.1, q2.2.2.2.2.2.2.2.2.2.2))) else (if q2.2.2.2.2.2.2.2.1 < zlength_2 then (Option.bind (f_X2_character N zcharacters_2 zlength_2 q2.2.2.2.2.2.2.2.1) (fun q6 => if q6 = 59 then (f_X2_lookAtPlaces_L2 N zcharacters_2 zlength_2 n_2 (x1_2 + 1) q2.2.1 q2.2.2.1 q2.2.2.2.1 q2.2.2.2.2.1 q2.2.2.2.2.2.1 q2.2.2.2.2.2.2.1 (q2.2.2.2.2.2.2.2.1 + 1) q2.2.2.2.2.2.2.2.2.1 q2.2.2.2.2.2.2.2.2.2.1 q2.2.2.2.2.2.2.2.2.2.2) else (Option.bind (f_X2_blame N q2.2.2.2.2.2.2.2.1 1 q2.2.2.2.2.2.1 q2.2.2.2.2.2.2.1) (fun q9 => chk (isZ q9.1) (some (.inl (q9.1, q2.2.1, q2.2.2.1, q2.2.2.2.1, q2.2.2.2.2.1, q9.2.1, q9.2.2, q2.2.2.2.2.2.2.2.1, q2.2.2.2.2.2.2.2.2.1, q2.2.2.2.2.2.2.2.2.2.1, q2.2.2.2.2.2.2.2.2.2.2))))))) else (some (.inl (1, q2.2.1, q2.2.2.1, q2.2.2.2.1, q2.2.2.2.2.1, q2.2.2.2.2.2.1, q2.2.2.2.2.2.2.1, q2.2.2.2.2.2.2.2.1, q2.2.2.2.2.2.2.2.2.1, q2.2.2.2.2.2.2.2.2.2.1, q2.2.2.2.2.2.2.2.2.2.2))))))
def f_X2_lookAtPlaces (N : Nat) (zcharacters : Nat → Int32) (zlength : Int32) (ztold_owners : Nat → Int32) (ztold_ranks : Nat → Int32) (ztold_ways : Nat → Int32) (ztold_size : Int32) (zfaultIndex : Int32) (zfaultReason : Int32) (zat : Int32) (zwayNumbers : Nat → Int32) (zwayIndexes : Nat → Int32) (zwayCount : Int32) : Option (Int32 × (Nat → Int32) × (Nat → Int32) × (Nat → Int32) × Int32 × Int32 × Int32 × Int32 × (Nat → Int32) × (Nat → Int32) × Int32) :=
    Option.bind (f_X2_lookAtPlaces_L2 N zcharacters zlength N 0 ztold_owners ztold_ranks ztold_ways ztold_size zfaultIndex zfaultReason zat zwayNumbers zwayIndexes zwayCount) (fun q14 => sm q14 some (fun t15 => Option.bind (f_X2_blame N (t15.2.2.2.2.2.2.1 - 1) 4 t15.2.2.2.2.1 t15.2.2.2.2.2.1) (fun q16 => chk (isZ q16.1) (some (q16.1, t15.1, t15.2.1, t15.2.2.1, t15.2.2.2.1, q16.2.1, q16.2.2, t15.2.2.2.2.2.2.1, t15.2.2.2.2.2.2.2.1, t15.2.2.2.2.2.2.2.2.1, t15.2.2.2.2.2.2.2.2.2)))))
set_option maxHeartbeats 4000000 in
set_option maxRecDepth 100000 in
theorem c_X2_lookAtPlaces (l : Launch) (D : va_G) (cI cC cH : ClassId) (a0 : Nat) (a_characters : Nat) (a_told : Nat) (a_wayNumbers : Nat) (a_wayIndexes : Nat) (a_told_owners : Nat) (a_told_ranks : Nat) (a_told_ways : Nat) (N : Nat) (zcharacters : Nat → Int32) (zlength : Int32) (ztold_owners : Nat → Int32) (ztold_ranks : Nat → Int32) (ztold_ways : Nat → Int32) (ztold_size : Int32) (zfaultIndex : Int32) (zfaultReason : Int32) (zat : Int32) (zwayNumbers : Nat → Int32) (zwayIndexes : Nat → Int32) (zwayCount : Int32) (y : Int32 × (Nat → Int32) × (Nat → Int32) × (Nat → Int32) × Int32 × Int32 × Int32 × Int32 × (Nat → Int32) × (Nat → Int32) × Int32) (h : f_X2_lookAtPlaces N zcharacters zlength ztold_owners ztold_ranks ztold_ways ztold_size zfaultIndex zfaultReason zat zwayNumbers zwayIndexes zwayCount = some y) : CTi l yX2_lookAtPlaces cX2_lookAtPlaces 2 (some .boolean) 4 90 D (tyL cI cC cH) [.ref a0] [(a0, .inr (1, [.ref a_characters, .int zlength, .ref a_told, .int zfaultIndex, .int zfaultReason, .int zat, .ref a_wayNumbers, .ref a_wayIndexes, .int zwayCount])), (a_characters, .inl (cC, 80, .inl zcharacters)), (a_told, .inr (0, [.ref a_told_owners, .ref a_told_ranks, .ref a_told_ways, .int ztold_size])), (a_told_owners, .inl (cI, 12, .inl ztold_owners)), (a_told_ranks, .inl (cI, 12, .inl ztold_ranks)), (a_told_ways, .inl (cI, 12, .inl ztold_ways)), (a_wayNumbers, .inl (cI, 80, .inl zwayNumbers)), (a_wayIndexes, .inl (cI, 80, .inl zwayIndexes))] [(a0, .inr (1, [.ref a_characters, .int zlength, .ref a_told, .int y.2.2.2.2.2.1, .int y.2.2.2.2.2.2.1, .int y.2.2.2.2.2.2.2.1, .ref a_wayNumbers, .ref a_wayIndexes, .int y.2.2.2.2.2.2.2.2.2.2])), (a_characters, .inl (cC, 80, .inl zcharacters)), (a_told, .inr (0, [.ref a_told_owners, .ref a_told_ranks, .ref a_told_ways, .int y.2.2.2.2.1])), (a_told_owners, .inl (cI, 12, .inl y.2.1)), (a_told_ranks, .inl (cI, 12, .inl y.2.2.1)), (a_told_ways, .inl (cI, 12, .inl y.2.2.2.1)), (a_wayNumbers, .inl (cI, 80, .inl y.2.2.2.2.2.2.2.2.1)), (a_wayIndexes, .inl (cI, 80, .inl y.2.2.2.2.2.2.2.2.2.1))] y.1 := by
  unfold f_X2_lookAtPlaces at h
  refine ctZ (by decide) (Nat.le_of_ble_eq_true rfl) ?_
  intro p e s m args below meth c A Q ls F hret hP hD hS hl
  have hx := F.1
  have hb := F.2.1
  have hown : s.vm.findClass RX2 = some m.cls := F.2.2.2.1
  have hts := F.2.2.2.2.1
  have hN := F.2.2.2.2.2.1
  have hK := F.2.2.2.2.2.2.1
  have hl : lv_has ls 2 [(0, .ref a0)] := hl
  refine lv_iconst (v := 0) hx hb dX2_lookAtPlaces_0 (by decide) ?_
  refine lv_istore_n (lv' := [(1, .int 0), (0, .ref a0)]) hx hb dX2_lookAtPlaces_1 rfl hl (by decide) rfl (fun ls hl => ?_)
  have L_2 : ∀ (n_2 : Nat) (x1_2 : Int32) (ztold_owners_2 : Nat → Int32) (ztold_ranks_2 : Nat → Int32) (ztold_ways_2 : Nat → Int32) (ztold_size_2 : Int32) (zfaultIndex_2 : Int32) (zfaultReason_2 : Int32) (zat_2 : Int32) (zwayNumbers_2 : Nat → Int32) (zwayIndexes_2 : Nat → Int32) (zwayCount_2 : Int32) (q12 : ((Int32 × (Nat → Int32) × (Nat → Int32) × (Nat → Int32) × Int32 × Int32 × Int32 × Int32 × (Nat → Int32) × (Nat → Int32) × Int32) ⊕ ((Nat → Int32) × (Nat → Int32) × (Nat → Int32) × Int32 × Int32 × Int32 × Int32 × (Nat → Int32) × (Nat → Int32) × Int32))), f_X2_lookAtPlaces_L2 N zcharacters zlength n_2 x1_2 ztold_owners_2 ztold_ranks_2 ztold_ways_2 ztold_size_2 zfaultIndex_2 zfaultReason_2 zat_2 zwayNumbers_2 zwayIndexes_2 zwayCount_2 = some q12 → (∀ (t13 : (Nat → Int32) × (Nat → Int32) × (Nat → Int32) × Int32 × Int32 × Int32 × Int32 × (Nat → Int32) × (Nat → Int32) × Int32), q12 = .inr t13 → ∀ (ls : Array Slot) (H : Heap) (locs : List Loc), lv_has ls 2 [(0, .ref a0)] → va_P D vwCl [(a0, .inr (1, [.ref a_characters, .int zlength, .ref a_told, .int t13.2.2.2.2.1, .int t13.2.2.2.2.2.1, .int t13.2.2.2.2.2.2.1, .ref a_wayNumbers, .ref a_wayIndexes, .int t13.2.2.2.2.2.2.2.2.2])), (a_characters, .inl (cC, 80, .inl zcharacters)), (a_told, .inr (0, [.ref a_told_owners, .ref a_told_ranks, .ref a_told_ways, .int t13.2.2.2.1])), (a_told_owners, .inl (cI, 12, .inl t13.1)), (a_told_ranks, .inl (cI, 12, .inl t13.2.1)), (a_told_ways, .inl (cI, 12, .inl t13.2.2.1)), (a_wayNumbers, .inl (cI, 80, .inl t13.2.2.2.2.2.2.2.1)), (a_wayIndexes, .inl (cI, 80, .inl t13.2.2.2.2.2.2.2.2.1))] H → va_D A [(a0, .inr (1, [.ref a_characters, .int zlength, .ref a_told, .int t13.2.2.2.2.1, .int t13.2.2.2.2.2.1, .int t13.2.2.2.2.2.2.1, .ref a_wayNumbers, .ref a_wayIndexes, .int t13.2.2.2.2.2.2.2.2.2])), (a_characters, .inl (cC, 80, .inl zcharacters)), (a_told, .inr (0, [.ref a_told_owners, .ref a_told_ranks, .ref a_told_ways, .int t13.2.2.2.1])), (a_told_owners, .inl (cI, 12, .inl t13.1)), (a_told_ranks, .inl (cI, 12, .inl t13.2.1)), (a_told_ways, .inl (cI, 12, .inl t13.2.2.1)), (a_wayNumbers, .inl (cI, 80, .inl t13.2.2.2.2.2.2.2.1)), (a_wayIndexes, .inl (cI, 80, .inl t13.2.2.2.2.2.2.2.2.1))] → va_S A s.heap H locs → W p l e (rmm 4 90) s m args below meth c H locs 0 0 Q (F0 m 65 ls [])) → (∀ r9, q12 = .inl r9 → r9 = y) → ∀ (ls : Array Slot) (H : Heap) (locs : List Loc), lv_has ls 2 [(0, .ref a0), (1, .int x1_2)] → va_P D vwCl [(a0, .inr (1, [.ref a_characters, .int zlength, .ref a_told, .int zfaultIndex_2, .int zfaultReason_2, .int zat_2, .ref a_wayNumbers, .ref a_wayIndexes, .int zwayCount_2])), (a_characters, .inl (cC, 80, .inl zcharacters)), (a_told, .inr (0, [.ref a_told_owners, .ref a_told_ranks, .ref a_told_ways, .int ztold_size_2])), (a_told_owners, .inl (cI, 12, .inl ztold_owners_2)), (a_told_ranks, .inl (cI, 12, .inl ztold_ranks_2)), (a_told_ways, .inl (cI, 12, .inl ztold_ways_2)), (a_wayNumbers, .inl (cI, 80, .inl zwayNumbers_2)), (a_wayIndexes, .inl (cI, 80, .inl zwayIndexes_2))] H → va_D A [(a0, .inr (1, [.ref a_characters, .int zlength, .ref a_told, .int zfaultIndex_2, .int zfaultReason_2, .int zat_2, .ref a_wayNumbers, .ref a_wayIndexes, .int zwayCount_2])), (a_characters, .inl (cC, 80, .inl zcharacters)), (a_told, .inr (0, [.ref a_told_owners, .ref a_told_ranks, .ref a_told_ways, .int ztold_size_2])), (a_told_owners, .inl (cI, 12, .inl ztold_owners_2)), (a_told_ranks, .inl (cI, 12, .inl ztold_ranks_2)), (a_told_ways, .inl (cI, 12, .inl ztold_ways_2)), (a_wayNumbers, .inl (cI, 80, .inl zwayNumbers_2)), (a_wayIndexes, .inl (cI, 80, .inl zwayIndexes_2))] → va_S A s.heap H locs → W p l e (rmm 4 90) s m args below meth c H locs 0 0 Q (F0 m 2 ls []) := by
    intro  n_2
    induction n_2 with
    | zero => intro x1_2 ztold_owners_2 ztold_ranks_2 ztold_ways_2 ztold_size_2 zfaultIndex_2 zfaultReason_2 zat_2 zwayNumbers_2 zwayIndexes_2 zwayCount_2 q12 h; exact no_s h
    | succ n_2 ih_2 =>
      intro x1_2 ztold_owners_2 ztold_ranks_2 ztold_ways_2 ztold_size_2 zfaultIndex_2 zfaultReason_2 zat_2 zwayNumbers_2 zwayIndexes_2 zwayCount_2 q12 h J_2 hr_2 ls H locs hl hP hD hS
      rw [f_X2_lookAtPlaces_L2] at h
      refine lv_iload_n hx hb dX2_lookAtPlaces_2 rfl (lv_at hl 1 rfl) ?_
      refine lv_bipush (v := 12) hx hb dX2_lookAtPlaces_3 (by decide) ?_
      refine lv_icmp_ge (tgt := 65) hx hb dX2_lookAtPlaces_5 (by decide) (fun c1 => ?_) (fun c1 => ?_)
      · have h := itT h c1
        obtain rfl := Option.some.inj h
        exact J_2 _ rfl _ _ _ (lv_sub hl [0] rfl) hP hD hS
      · have h := itF h c1
        refine lv_aload_n hx hb dX2_lookAtPlaces_8 rfl (lv_at hl 0 rfl) ?_
        obtain ⟨q2, hq3, h⟩ := bd h
        refine kvI (ws' := [(a0, .inr (1, [.ref a_characters, .int zlength, .ref a_told, .int q2.2.2.2.2.2.1, .int q2.2.2.2.2.2.2.1, .int q2.2.2.2.2.2.2.2.1, .ref a_wayNumbers, .ref a_wayIndexes, .int q2.2.2.2.2.2.2.2.2.2.2])), (a_characters, .inl (cC, 80, .inl zcharacters)), (a_told, .inr (0, [.ref a_told_owners, .ref a_told_ranks, .ref a_told_ways, .int q2.2.2.2.2.1])), (a_told_owners, .inl (cI, 12, .inl q2.2.1)), (a_told_ranks, .inl (cI, 12, .inl q2.2.2.1)), (a_told_ways, .inl (cI, 12, .inl q2.2.2.2.1)), (a_wayNumbers, .inl (cI, 80, .inl q2.2.2.2.2.2.2.2.2.1)), (a_wayIndexes, .inl (cI, 80, .inl q2.2.2.2.2.2.2.2.2.2.1))]) (wr := []) (As := []) F (c_X2_lookAtPlace l D cI cC cH a0 a_characters a_told a_wayNumbers a_wayIndexes a_told_owners a_told_ranks a_told_ways N zcharacters zlength ztold_owners_2 ztold_ranks_2 ztold_ways_2 ztold_size_2 zfaultIndex_2 zfaultReason_2 zat_2 zwayNumbers_2 zwayIndexes_2 zwayCount_2 q2 hq3) yfX2_lookAtPlace ⟨wd2_60, wd2_62, wdp_9⟩ hP hD hS [0, 1, 2, 3, 4, 5, 6, 7] [] [0, 1, 2, 3, 4, 5, 6, 7] rfl rfl (by decide) (by decide) (by decide) rfl (by decide) 0 1 rfl rfl rfl ⟨Nat.le_of_ble_eq_true rfl, Nat.le_of_ble_eq_true rfl, Nat.zero_le _, Nat.zero_le _⟩ rfl hl rfl (Nat.le_of_ble_eq_true rfl) dX2_lookAtPlaces_9 (fun H locs hP hD hS => ?_)
        refine lv_if_ne (tgt := 17) hx hb dX2_lookAtPlaces_12 (by decide) (fun c4 => ?_) (fun c4 => ?_)
        · have h := itF h c4
          refine lv_aload_n hx hb dX2_lookAtPlaces_17 rfl (lv_at hl 0 rfl) ?_
          refine va_get (D := D) (ci := 1) (v := .int q2.2.2.2.2.2.2.2.1) (C := RX2) (T := TX2) (N := 9) hx hb hts inG2 hown hK hP 0 rfl rfl 5 (by decide) (hts _ wd1_62) (fun _ h9 => h9) rfl dX2_lookAtPlaces_18 ?_
          refine lv_aload_n hx hb dX2_lookAtPlaces_21 rfl (lv_at hl 0 rfl) ?_
          refine va_get (D := D) (ci := 1) (v := .int zlength) (C := RX2) (T := TX2) (N := 9) hx hb hts inG2 hown hK hP 0 rfl rfl 1 (by decide) (hts _ wd1_54) (fun _ h9 => h9) rfl dX2_lookAtPlaces_22 ?_
          refine lv_icmp_lt (tgt := 30) hx hb dX2_lookAtPlaces_25 (by decide) (fun c5 => ?_) (fun c5 => ?_)
          · have h := itT h c5
            refine lv_aload_n hx hb dX2_lookAtPlaces_30 rfl (lv_at hl 0 rfl) ?_
            obtain ⟨q6, hq7, h⟩ := bd h
            refine kvI (ws' := [(a0, .inr (1, [.ref a_characters, .int zlength, .ref a_told, .int q2.2.2.2.2.2.1, .int q2.2.2.2.2.2.2.1, .int q2.2.2.2.2.2.2.2.1, .ref a_wayNumbers, .ref a_wayIndexes, .int q2.2.2.2.2.2.2.2.2.2.2])), (a_characters, .inl (cC, 80, .inl zcharacters)), (a_told, .inr (0, [.ref a_told_owners, .ref a_told_ranks, .ref a_told_ways, .int q2.2.2.2.2.1])), (a_told_owners, .inl (cI, 12, .inl q2.2.1)), (a_told_ranks, .inl (cI, 12, .inl q2.2.2.1)), (a_told_ways, .inl (cI, 12, .inl q2.2.2.2.1)), (a_wayNumbers, .inl (cI, 80, .inl q2.2.2.2.2.2.2.2.2.1)), (a_wayIndexes, .inl (cI, 80, .inl q2.2.2.2.2.2.2.2.2.2.1))]) (wr := [(a_told, .inr (0, [.ref a_told_owners, .ref a_told_ranks, .ref a_told_ways, .int q2.2.2.2.2.1])), (a_told_owners, .inl (cI, 12, .inl q2.2.1)), (a_told_ranks, .inl (cI, 12, .inl q2.2.2.1)), (a_told_ways, .inl (cI, 12, .inl q2.2.2.2.1)), (a_wayNumbers, .inl (cI, 80, .inl q2.2.2.2.2.2.2.2.2.1)), (a_wayIndexes, .inl (cI, 80, .inl q2.2.2.2.2.2.2.2.2.2.1))]) (As := []) F (c_X2_character l D cI cC cH a0 a_characters a_told a_wayNumbers a_wayIndexes N zcharacters zlength q2.2.2.2.2.2.1 q2.2.2.2.2.2.2.1 q2.2.2.2.2.2.2.2.1 q2.2.2.2.2.2.2.2.2.2.2 q6 hq7) yfX2_character ⟨wd2_64, wd2_66, wdp_10⟩ hP hD hS [0, 1] [2, 3, 4, 5, 6, 7] [6, 7, 0, 1, 2, 3, 4, 5] rfl rfl (by decide) (by decide) (by decide) rfl (by decide) 0 1 rfl rfl rfl ⟨Nat.le_of_ble_eq_true rfl, Nat.le_of_ble_eq_true rfl, Nat.zero_le _, Nat.zero_le _⟩ rfl hl rfl (Nat.le_of_ble_eq_true rfl) dX2_lookAtPlaces_31 (fun H locs hP hD hS => ?_)
            refine lv_bipush (v := 59) hx hb dX2_lookAtPlaces_34 (by decide) ?_
            refine lv_icmp_eq (tgt := 49) hx hb dX2_lookAtPlaces_36 (by decide) (fun c8 => ?_) (fun c8 => ?_)
            · have h := itT h c8
              refine lv_aload_n hx hb dX2_lookAtPlaces_49 rfl (lv_at hl 0 rfl) ?_
              refine lv_dup hx hb dX2_lookAtPlaces_50 rfl ?_
              refine va_get (D := D) (ci := 1) (v := .int q2.2.2.2.2.2.2.2.1) (C := RX2) (T := TX2) (N := 9) hx hb hts inG2 hown hK hP 0 rfl rfl 5 (by decide) (hts _ wd1_62) (fun _ h9 => h9) rfl dX2_lookAtPlaces_51 ?_
              refine lv_iconst (v := 1) hx hb dX2_lookAtPlaces_54 (by decide) ?_
              refine lv_iadd hx hb dX2_lookAtPlaces_55 ?_
              refine va_put (D := D) (ci := 1) (v := .int (q2.2.2.2.2.2.2.2.1 + 1)) (ty := .int) (C := RX2) (T := TX2) (N := 9) hx hb hts inG2 tyX2 tyX2_ok nmX2 hown hK hP hD hS 0 rfl rfl 5 (by decide) (hts _ wd1_62) (fun _ h9 => h9) rfl (by decide +kernel) rfl rfl (Nat.le_of_ble_eq_true rfl) dX2_lookAtPlaces_56 (fun H locs hP hD hS => ?_)
              have hP : va_P D vwCl [(a0, .inr (1, [.ref a_characters, .int zlength, .ref a_told, .int q2.2.2.2.2.2.1, .int q2.2.2.2.2.2.2.1, .int (q2.2.2.2.2.2.2.2.1 + 1), .ref a_wayNumbers, .ref a_wayIndexes, .int q2.2.2.2.2.2.2.2.2.2.2])), (a_characters, .inl (cC, 80, .inl zcharacters)), (a_told, .inr (0, [.ref a_told_owners, .ref a_told_ranks, .ref a_told_ways, .int q2.2.2.2.2.1])), (a_told_owners, .inl (cI, 12, .inl q2.2.1)), (a_told_ranks, .inl (cI, 12, .inl q2.2.2.1)), (a_told_ways, .inl (cI, 12, .inl q2.2.2.2.1)), (a_wayNumbers, .inl (cI, 80, .inl q2.2.2.2.2.2.2.2.2.1)), (a_wayIndexes, .inl (cI, 80, .inl q2.2.2.2.2.2.2.2.2.2.1))] H := hP
              have hD : va_D A [(a0, .inr (1, [.ref a_characters, .int zlength, .ref a_told, .int q2.2.2.2.2.2.1, .int q2.2.2.2.2.2.2.1, .int (q2.2.2.2.2.2.2.2.1 + 1), .ref a_wayNumbers, .ref a_wayIndexes, .int q2.2.2.2.2.2.2.2.2.2.2])), (a_characters, .inl (cC, 80, .inl zcharacters)), (a_told, .inr (0, [.ref a_told_owners, .ref a_told_ranks, .ref a_told_ways, .int q2.2.2.2.2.1])), (a_told_owners, .inl (cI, 12, .inl q2.2.1)), (a_told_ranks, .inl (cI, 12, .inl q2.2.2.1)), (a_told_ways, .inl (cI, 12, .inl q2.2.2.2.1)), (a_wayNumbers, .inl (cI, 80, .inl q2.2.2.2.2.2.2.2.2.1)), (a_wayIndexes, .inl (cI, 80, .inl q2.2.2.2.2.2.2.2.2.2.1))] := hD
              refine lv_iinc (v := x1_2 + 1) (lv' := [(1, .int (x1_2 + 1)), (0, .ref a0)]) hx hb dX2_lookAtPlaces_59 hl (k := 1) rfl rfl (by decide) rfl (fun ls hl => ?_)
              refine lv_goto (tgt := 2) hx hb dX2_lookAtPlaces_62 (by decide) ?_
              exact ih_2 (x1_2 + 1) q2.2.1 q2.2.2.1 q2.2.2.2.1 q2.2.2.2.2.1 q2.2.2.2.2.2.1 q2.2.2.2.2.2.2.1 (q2.2.2.2.2.2.2.2.1 + 1) q2.2.2.2.2.2.2.2.2.1 q2.2.2.2.2.2.2.2.2.2.1 q2.2.2.2.2.2.2.2.2.2.2 _ h J_2 hr_2 _ _ _ (lv_sub hl [1, 0] rfl) hP hD hS
            · have h := itF h c8
              refine lv_aload_n hx hb dX2_lookAtPlaces_39 rfl (lv_at hl 0 rfl) ?_
              refine lv_aload_n hx hb dX2_lookAtPlaces_40 rfl (lv_at hl 0 rfl) ?_
              refine va_get (D := D) (ci := 1) (v := .int q2.2.2.2.2.2.2.2.1) (C := RX2) (T := TX2) (N := 9) hx hb hts inG2 hown hK hP 0 rfl rfl 5 (by decide) (hts _ wd1_62) (fun _ h9 => h9) rfl dX2_lookAtPlaces_41 ?_
              refine lv_iconst (v := 1) hx hb dX2_lookAtPlaces_44 (by decide) ?_
              obtain ⟨q9, hq10, h⟩ := bd h
              refine kvI (ws' := [(a0, .inr (1, [.ref a_characters, .int zlength, .ref a_told, .int q9.2.1, .int q9.2.2, .int q2.2.2.2.2.2.2.2.1, .ref a_wayNumbers, .ref a_wayIndexes, .int q2.2.2.2.2.2.2.2.2.2.2])), (a_characters, .inl (cC, 80, .inl zcharacters)), (a_told, .inr (0, [.ref a_told_owners, .ref a_told_ranks, .ref a_told_ways, .int q2.2.2.2.2.1])), (a_told_owners, .inl (cI, 12, .inl q2.2.1)), (a_told_ranks, .inl (cI, 12, .inl q2.2.2.1)), (a_told_ways, .inl (cI, 12, .inl q2.2.2.2.1)), (a_wayNumbers, .inl (cI, 80, .inl q2.2.2.2.2.2.2.2.2.1)), (a_wayIndexes, .inl (cI, 80, .inl q2.2.2.2.2.2.2.2.2.2.1))]) (wr := [(a_characters, .inl (cC, 80, .inl zcharacters)), (a_told, .inr (0, [.ref a_told_owners, .ref a_told_ranks, .ref a_told_ways, .int q2.2.2.2.2.1])), (a_told_owners, .inl (cI, 12, .inl q2.2.1)), (a_told_ranks, .inl (cI, 12, .inl q2.2.2.1)), (a_told_ways, .inl (cI, 12, .inl q2.2.2.2.1)), (a_wayNumbers, .inl (cI, 80, .inl q2.2.2.2.2.2.2.2.2.1)), (a_wayIndexes, .inl (cI, 80, .inl q2.2.2.2.2.2.2.2.2.2.1))]) (As := [.int q2.2.2.2.2.2.2.2.1, .int 1]) F (c_X2_blame l D cI cC cH a0 a_characters a_told a_wayNumbers a_wayIndexes N q2.2.2.2.2.2.2.2.1 1 zlength q2.2.2.2.2.2.1 q2.2.2.2.2.2.2.1 q2.2.2.2.2.2.2.2.1 q2.2.2.2.2.2.2.2.2.2.2 q9 hq10) yfX2_blame ⟨wd2_68, wd2_70, wdp_11⟩ hP hD hS [0] [1, 2, 3, 4, 5, 6, 7] [7, 0, 1, 2, 3, 4, 5, 6] rfl rfl (by decide) (by decide) (by decide) rfl (by decide) 0 1 rfl rfl rfl ⟨Nat.le_of_ble_eq_true rfl, Nat.le_of_ble_eq_true rfl, Nat.zero_le _, Nat.zero_le _⟩ rfl hl rfl (Nat.le_of_ble_eq_true rfl) dX2_lookAtPlaces_45 (fun H locs hP hD hS => ?_)
              obtain ⟨g11, h⟩ := chk_s h
              obtain rfl := Option.some.inj h
              obtain rfl := hr_2 _ rfl
              exact hret _ _ _ _ _ (isZ_n g11) rfl hP hD hS dX2_lookAtPlaces_48
          · have h := itF h c5
            refine lv_iconst (v := 1) hx hb dX2_lookAtPlaces_28 (by decide) ?_
            obtain rfl := Option.some.inj h
            obtain rfl := hr_2 _ rfl
            exact hret _ _ _ _ _ rfl rfl hP hD hS dX2_lookAtPlaces_29
        · have h := itT h c4
          refine lv_iconst (v := 0) hx hb dX2_lookAtPlaces_15 (by decide) ?_
          obtain rfl := Option.some.inj h
          obtain rfl := hr_2 _ rfl
          exact hret _ _ _ _ _ rfl rfl hP hD hS dX2_lookAtPlaces_16
  obtain ⟨q14, hb19, h⟩ := bd h
  have hr20 : ∀ r9, q14 = .inl r9 → r9 = y := by
    intro r9 e9
    rw [e9] at h
    exact Option.some.inj h
  refine L_2 N 0 ztold_owners ztold_ranks ztold_ways ztold_size zfaultIndex zfaultReason zat zwayNumbers zwayIndexes zwayCount q14 hb19 ?_ hr20 _ _ _ (lv_sub hl [1, 0] rfl) hP hD hS
  intro t15 e9 ls H locs hl hP hD hS
  rw [e9] at h
  have h := sm_r h
  refine lv_aload_n hx hb dX2_lookAtPlaces_65 rfl (lv_at hl 0 rfl) ?_
  refine lv_aload_n hx hb dX2_lookAtPlaces_66 rfl (lv_at hl 0 rfl) ?_
  refine va_get (D := D) (ci := 1) (v := .int t15.2.2.2.2.2.2.1) (C := RX2) (T := TX2) (N := 9) hx hb hts inG2 hown hK hP 0 rfl rfl 5 (by decide) (hts _ wd1_62) (fun _ h9 => h9) rfl dX2_lookAtPlaces_67 ?_
  refine lv_iconst (v := 1) hx hb dX2_lookAtPlaces_70 (by decide) ?_
  refine lv_isub hx hb dX2_lookAtPlaces_71 ?_
  refine lv_iconst (v := 4) hx hb dX2_lookAtPlaces_72 (by decide) ?_
  obtain ⟨q16, hq17, h⟩ := bd h
  refine kvI (ws' := [(a0, .inr (1, [.ref a_characters, .int zlength, .ref a_told, .int q16.2.1, .int q16.2.2, .int t15.2.2.2.2.2.2.1, .ref a_wayNumbers, .ref a_wayIndexes, .int t15.2.2.2.2.2.2.2.2.2])), (a_characters, .inl (cC, 80, .inl zcharacters)), (a_told, .inr (0, [.ref a_told_owners, .ref a_told_ranks, .ref a_told_ways, .int t15.2.2.2.1])), (a_told_owners, .inl (cI, 12, .inl t15.1)), (a_told_ranks, .inl (cI, 12, .inl t15.2.1)), (a_told_ways, .inl (cI, 12, .inl t15.2.2.1)), (a_wayNumbers, .inl (cI, 80, .inl t15.2.2.2.2.2.2.2.1)), (a_wayIndexes, .inl (cI, 80, .inl t15.2.2.2.2.2.2.2.2.1))]) (wr := [(a_characters, .inl (cC, 80, .inl zcharacters)), (a_told, .inr (0, [.ref a_told_owners, .ref a_told_ranks, .ref a_told_ways, .int t15.2.2.2.1])), (a_told_owners, .inl (cI, 12, .inl t15.1)), (a_told_ranks, .inl (cI, 12, .inl t15.2.1)), (a_told_ways, .inl (cI, 12, .inl t15.2.2.1)), (a_wayNumbers, .inl (cI, 80, .inl t15.2.2.2.2.2.2.2.1)), (a_wayIndexes, .inl (cI, 80, .inl t15.2.2.2.2.2.2.2.2.1))]) (As := [.int (t15.2.2.2.2.2.2.1 - 1), .int 4]) F (c_X2_blame l D cI cC cH a0 a_characters a_told a_wayNumbers a_wayIndexes N (t15.2.2.2.2.2.2.1 - 1) 4 zlength t15.2.2.2.2.1 t15.2.2.2.2.2.1 t15.2.2.2.2.2.2.1 t15.2.2.2.2.2.2.2.2.2 q16 hq17) yfX2_blame ⟨wd2_68, wd2_70, wdp_11⟩ hP hD hS [0] [1, 2, 3, 4, 5, 6, 7] [7, 0, 1, 2, 3, 4, 5, 6] rfl rfl (by decide) (by decide) (by decide) rfl (by decide) 0 1 rfl rfl rfl ⟨Nat.le_of_ble_eq_true rfl, Nat.le_of_ble_eq_true rfl, Nat.zero_le _, Nat.zero_le _⟩ rfl hl rfl (Nat.le_of_ble_eq_true rfl) dX2_lookAtPlaces_73 (fun H locs hP hD hS => ?_)
  obtain ⟨g18, h⟩ := chk_s h
  obtain rfl := Option.some.inj h
  exact hret _ _ _ _ _ (isZ_n g18) rfl hP hD hS dX2_lookAtPlaces_76
def f_X2_lookForPlacesOfWays_L2 (N : Nat) (ztold_size_2 : Int32) (zwayNumbers_2 : Nat → Int32) (zwayIndexes_2 : Nat → Int32) (zwayCount_2 : Int32) : Nat → Int32 → Int32 → Int32 → Option ((Int32 × Int32 × Int32) ⊕ (Int32 × Int32))
  | 0, _, _, _ => none
  | n_2 + 1, x1_2, zfaultIndex_2, zfaultReason_2 =>
    if zwayCount_2 ≤ x1_2 then (some (.inr (zfaultIndex_2, zfaultReason_2))) else (chk (gi x1_2 80) (Option.bind (f_X0_has N (zwayNumbers_2 (Int32.toNatClampNeg x1_2)) ztold_size_2) (fun q3 => if q3 = 0 then (chk (gi x1_2 80) (Option.bind (f_X2_blame N (zwayIndexes_2 (Int32.toNatClampNeg x1_2)) 5 zfaultIndex_2 zfaultReason_2) (fun q7 => chk (isZ q7.1) (some (.inl (q7.1, q7.2.1, q7.2.2)))))) else (f_X2_lookForPlacesOfWays_L2 N ztold_size_2 zwayNumbers_2 zwayIndexes_2 zwayCount_2 n_2 (x1_2 + 1) zfaultIndex_2 zfaultReason_2))))
def f_X2_lookForPlacesOfWays (N : Nat) (ztold_size : Int32) (zfaultIndex : Int32) (zfaultReason : Int32) (zwayNumbers : Nat → Int32) (zwayIndexes : Nat → Int32) (zwayCount : Int32) : Option (Int32 × Int32 × Int32) :=
    Option.bind (f_X2_lookForPlacesOfWays_L2 N ztold_size zwayNumbers zwayIndexes zwayCount N 0 zfaultIndex zfaultReason) (fun q12 => sm q12 some (fun t13 => some (1, t13.1, t13.2)))
set_option maxHeartbeats 4000000 in
set_option maxRecDepth 100000 in
theorem c_X2_lookForPlacesOfWays (l : Launch) (D : va_G) (cI cC cH : ClassId) (a0 : Nat) (a_characters : Nat) (a_told : Nat) (a_wayNumbers : Nat) (a_wayIndexes : Nat) (a_told_owners : Nat) (a_told_ranks : Nat) (a_told_ways : Nat) (N : Nat) (zlength : Int32) (ztold_size : Int32) (zfaultIndex : Int32) (zfaultReason : Int32) (zat : Int32) (zwayNumbers : Nat → Int32) (zwayIndexes : Nat → Int32) (zwayCount : Int32) (y : Int32 × Int32 × Int32) (h : f_X2_lookForPlacesOfWays N ztold_size zfaultIndex zfaultReason zwayNumbers zwayIndexes zwayCount = some y) : CTi l yX2_lookForPlacesOfWays cX2_lookForPlacesOfWays 2 (some .boolean) 1 22 D (tyL cI cC cH) [.ref a0] [(a0, .inr (1, [.ref a_characters, .int zlength, .ref a_told, .int zfaultIndex, .int zfaultReason, .int zat, .ref a_wayNumbers, .ref a_wayIndexes, .int zwayCount])), (a_told, .inr (0, [.ref a_told_owners, .ref a_told_ranks, .ref a_told_ways, .int ztold_size])), (a_wayNumbers, .inl (cI, 80, .inl zwayNumbers)), (a_wayIndexes, .inl (cI, 80, .inl zwayIndexes))] [(a0, .inr (1, [.ref a_characters, .int zlength, .ref a_told, .int y.2.1, .int y.2.2, .int zat, .ref a_wayNumbers, .ref a_wayIndexes, .int zwayCount])), (a_told, .inr (0, [.ref a_told_owners, .ref a_told_ranks, .ref a_told_ways, .int ztold_size])), (a_wayNumbers, .inl (cI, 80, .inl zwayNumbers)), (a_wayIndexes, .inl (cI, 80, .inl zwayIndexes))] y.1 := by
  unfold f_X2_lookForPlacesOfWays at h
  refine ctZ (by decide) (Nat.le_of_ble_eq_true rfl) ?_
  intro p e s m args below meth c A Q ls F hret hP hD hS hl
  have hx := F.1
  have hb := F.2.1
  have hown : s.vm.findClass RX2 = some m.cls := F.2.2.2.1
  have hts := F.2.2.2.2.1
  have hN := F.2.2.2.2.2.1
  have hK := F.2.2.2.2.2.2.1
  have hl : lv_has ls 2 [(0, .ref a0)] := hl
  refine lv_iconst (v := 0) hx hb dX2_lookForPlacesOfWays_0 (by decide) ?_
  refine lv_istore_n (lv' := [(1, .int 0), (0, .ref a0)]) hx hb dX2_lookForPlacesOfWays_1 rfl hl (by decide) rfl (fun ls hl => ?_)
  have L_2 : ∀ (n_2 : Nat) (x1_2 : Int32) (zfaultIndex_2 : Int32) (zfaultReason_2 : Int32) (q10 : ((Int32 × Int32 × Int32) ⊕ (Int32 × Int32))), f_X2_lookForPlacesOfWays_L2 N ztold_size zwayNumbers zwayIndexes zwayCount n_2 x1_2 zfaultIndex_2 zfaultReason_2 = some q10 → (∀ (t11 : Int32 × Int32), q10 = .inr t11 → ∀ (ls : Array Slot) (H : Heap) (locs : List Loc), lv_has ls 2 [] → va_P D vwCl [(a0, .inr (1, [.ref a_characters, .int zlength, .ref a_told, .int t11.1, .int t11.2, .int zat, .ref a_wayNumbers, .ref a_wayIndexes, .int zwayCount])), (a_told, .inr (0, [.ref a_told_owners, .ref a_told_ranks, .ref a_told_ways, .int ztold_size])), (a_wayNumbers, .inl (cI, 80, .inl zwayNumbers)), (a_wayIndexes, .inl (cI, 80, .inl zwayIndexes))] H → va_D A [(a0, .inr (1, [.ref a_characters, .int zlength, .ref a_told, .int t11.1, .int t11.2, .int zat, .ref a_wayNumbers, .ref a_wayIndexes, .int zwayCount])), (a_told, .inr (0, [.ref a_told_owners, .ref a_told_ranks, .ref a_told_ways, .int ztold_size])), (a_wayNumbers, .inl (cI, 80, .inl zwayNumbers)), (a_wayIndexes, .inl (cI, 80, .inl zwayIndexes))] → va_S A s.heap H locs → W p l e (rmm 1 22) s m args below meth c H locs 0 0 Q (F0 m 44 ls [])) → (∀ r9, q10 = .inl r9 → r9 = y) → ∀ (ls : Array Slot) (H : Heap) (locs : List Loc), lv_has ls 2 [(0, .ref a0), (1, .int x1_2)] → va_P D vwCl [(a0, .inr (1, [.ref a_characters, .int zlength, .ref a_told, .int zfaultIndex_2, .int zfaultReason_2, .int zat, .ref a_wayNumbers, .ref a_wayIndexes, .int zwayCount])), (a_told, .inr (0, [.ref a_told_owners, .ref a_told_ranks, .ref a_told_ways, .int ztold_size])), (a_wayNumbers, .inl (cI, 80, .inl zwayNumbers)), (a_wayIndexes, .inl (cI, 80, .inl zwayIndexes))] H → va_D A [(a0, .inr (1, [.ref a_characters, .int zlength, .ref a_told, .int zfaultIndex_2, .int zfaultReason_2, .int zat, .ref a_wayNumbers, .ref a_wayIndexes, .int zwayCount])), (a_told, .inr (0, [.ref a_told_owners, .ref a_told_ranks, .ref a_told_ways, .int ztold_size])), (a_wayNumbers, .inl (cI, 80, .inl zwayNumbers)), (a_wayIndexes, .inl (cI, 80, .inl zwayIndexes))] → va_S A s.heap H locs → W p l e (rmm 1 22) s m args below meth c H locs 0 0 Q (F0 m 2 ls []) := by
    intro  n_2
    induction n_2 with
    | zero => intro x1_2 zfaultIndex_2 zfaultReason_2 q10 h; exact no_s h
    | succ n_2 ih_2 =>
      intro x1_2 zfaultIndex_2 zfaultReason_2 q10 h J_2 hr_2 ls H locs hl hP hD hS
      rw [f_X2_lookForPlacesOfWays_L2] at h
      refine lv_iload_n hx hb dX2_lookForPlacesOfWays_2 rfl (lv_at hl 1 rfl) ?_
      refine lv_aload_n hx hb dX2_lookForPlacesOfWays_3 rfl (lv_at hl 0 rfl) ?_
      refine va_get (D := D) (ci := 1) (v := .int zwayCount) (C := RX2) (T := TX2) (N := 9) hx hb hts inG2 hown hK hP 0 rfl rfl 8 (by decide) (hts _ wd1_65) (fun _ h9 => h9) rfl dX2_lookForPlacesOfWays_4 ?_
      refine lv_icmp_ge (tgt := 44) hx hb dX2_lookForPlacesOfWays_7 (by decide) (fun c1 => ?_) (fun c1 => ?_)
      · have h := itT h c1
        obtain rfl := Option.some.inj h
        exact J_2 _ rfl _ _ _ (lv_sub hl [] rfl) hP hD hS
      · have h := itF h c1
        refine lv_aload_n hx hb dX2_lookForPlacesOfWays_10 rfl (lv_at hl 0 rfl) ?_
        refine va_get (D := D) (ci := 1) (v := .ref a_told) (C := RX2) (T := TX2) (N := 9) hx hb hts inG2 hown hK hP 0 rfl rfl 2 (by decide) (hts _ wd1_56) (fun _ h9 => h9) rfl dX2_lookForPlacesOfWays_11 ?_
        refine lv_aload_n hx hb dX2_lookForPlacesOfWays_14 rfl (lv_at hl 0 rfl) ?_
        refine va_get (D := D) (ci := 1) (v := .ref a_wayNumbers) (C := RX2) (T := TX2) (N := 9) hx hb hts inG2 hown hK hP 0 rfl rfl 6 (by decide) (hts _ wd1_63) (fun _ h9 => h9) rfl dX2_lookForPlacesOfWays_15 ?_
        refine lv_iload_n hx hb dX2_lookForPlacesOfWays_18 rfl (lv_at hl 1 rfl) ?_
        obtain ⟨g2, h⟩ := chk_s h
        refine va_iald hx hb hK hP 2 0 rfl rfl (gi_in g2) dX2_lookForPlacesOfWays_19 ?_
        obtain ⟨q3, hq4, h⟩ := bd h
        refine kvI (ws' := [(a0, .inr (1, [.ref a_characters, .int zlength, .ref a_told, .int zfaultIndex_2, .int zfaultReason_2, .int zat, .ref a_wayNumbers, .ref a_wayIndexes, .int zwayCount])), (a_told, .inr (0, [.ref a_told_owners, .ref a_told_ranks, .ref a_told_ways, .int ztold_size])), (a_wayNumbers, .inl (cI, 80, .inl zwayNumbers)), (a_wayIndexes, .inl (cI, 80, .inl zwayIndexes))]) (wr := [(a0, .inr (1, [.ref a_characters, .int zlength, .ref a_told, .int zfaultIndex_2, .int zfaultReason_2, .int zat, .ref a_wayNumbers, .ref a_wayIndexes, .int zwayCount])), (a_wayNumbers, .inl (cI, 80, .inl zwayNumbers)), (a_wayIndexes, .inl (cI, 80, .inl zwayIndexes))]) (As := [.int (zwayNumbers (Int32.toNatClampNeg x1_2))]) F (c_X0_has l D cI cC cH a_told a_told_owners a_told_ranks a_told_ways N (zwayNumbers (Int32.toNatClampNeg x1_2)) ztold_size q3 hq4) yfX0_has ⟨wd2_90, wd1_125, wd1_126⟩ hP hD hS [1] [0, 2, 3] [0, 3, 1, 2] rfl rfl (by decide) (by decide) (by decide) rfl (by decide) 1 0 rfl rfl rfl ⟨Nat.le_of_ble_eq_true rfl, Nat.le_of_ble_eq_true rfl, Nat.zero_le _, Nat.zero_le _⟩ rfl hl rfl (Nat.le_of_ble_eq_true rfl) dX2_lookForPlacesOfWays_20 (fun H locs hP hD hS => ?_)
        refine lv_if_ne (tgt := 38) hx hb dX2_lookForPlacesOfWays_23 (by decide) (fun c5 => ?_) (fun c5 => ?_)
        · have h := itF h c5
          refine lv_iinc (v := x1_2 + 1) (lv' := [(1, .int (x1_2 + 1)), (0, .ref a0)]) hx hb dX2_lookForPlacesOfWays_38 hl (k := 1) rfl rfl (by decide) rfl (fun ls hl => ?_)
          refine lv_goto (tgt := 2) hx hb dX2_lookForPlacesOfWays_41 (by decide) ?_
          exact ih_2 (x1_2 + 1) zfaultIndex_2 zfaultReason_2 _ h J_2 hr_2 _ _ _ (lv_sub hl [1, 0] rfl) hP hD hS
        · have h := itT h c5
          refine lv_aload_n hx hb dX2_lookForPlacesOfWays_26 rfl (lv_at hl 0 rfl) ?_
          refine lv_aload_n hx hb dX2_lookForPlacesOfWays_27 rfl (lv_at hl 0 rfl) ?_
          refine va_get (D := D) (ci := 1) (v := .ref a_wayIndexes) (C := RX2) (T := TX2) (N := 9) hx hb hts inG2 hown hK hP 0 rfl rfl 7 (by decide) (hts _ wd1_64) (fun _ h9 => h9) rfl dX2_lookForPlacesOfWays_28 ?_
          refine lv_iload_n hx hb dX2_lookForPlacesOfWays_31 rfl (lv_at hl 1 rfl) ?_
          obtain ⟨g6, h⟩ := chk_s h
          refine va_iald hx hb hK hP 3 0 rfl rfl (gi_in g6) dX2_lookForPlacesOfWays_32 ?_
          refine lv_iconst (v := 5) hx hb dX2_lookForPlacesOfWays_33 (by decide) ?_
          obtain ⟨q7, hq8, h⟩ := bd h
          refine kvI (ws' := [(a0, .inr (1, [.ref a_characters, .int zlength, .ref a_told, .int q7.2.1, .int q7.2.2, .int zat, .ref a_wayNumbers, .ref a_wayIndexes, .int zwayCount])), (a_told, .inr (0, [.ref a_told_owners, .ref a_told_ranks, .ref a_told_ways, .int ztold_size])), (a_wayNumbers, .inl (cI, 80, .inl zwayNumbers)), (a_wayIndexes, .inl (cI, 80, .inl zwayIndexes))]) (wr := [(a_told, .inr (0, [.ref a_told_owners, .ref a_told_ranks, .ref a_told_ways, .int ztold_size])), (a_wayNumbers, .inl (cI, 80, .inl zwayNumbers)), (a_wayIndexes, .inl (cI, 80, .inl zwayIndexes))]) (As := [.int (zwayIndexes (Int32.toNatClampNeg x1_2)), .int 5]) F (c_X2_blame l D cI cC cH a0 a_characters a_told a_wayNumbers a_wayIndexes N (zwayIndexes (Int32.toNatClampNeg x1_2)) 5 zlength zfaultIndex_2 zfaultReason_2 zat zwayCount q7 hq8) yfX2_blame ⟨wd2_68, wd2_70, wdp_11⟩ hP hD hS [0] [1, 2, 3] [3, 0, 1, 2] rfl rfl (by decide) (by decide) (by decide) rfl (by decide) 0 1 rfl rfl rfl ⟨Nat.le_of_ble_eq_true rfl, Nat.le_of_ble_eq_true rfl, Nat.zero_le _, Nat.zero_le _⟩ rfl hl rfl (Nat.le_of_ble_eq_true rfl) dX2_lookForPlacesOfWays_34 (fun H locs hP hD hS => ?_)
          obtain ⟨g9, h⟩ := chk_s h
          obtain rfl := Option.some.inj h
          obtain rfl := hr_2 _ rfl
          exact hret _ _ _ _ _ (isZ_n g9) rfl hP hD hS dX2_lookForPlacesOfWays_37
  obtain ⟨q12, hb14, h⟩ := bd h
  have hr15 : ∀ r9, q12 = .inl r9 → r9 = y := by
    intro r9 e9
    rw [e9] at h
    exact Option.some.inj h
  refine L_2 N 0 zfaultIndex zfaultReason q12 hb14 ?_ hr15 _ _ _ (lv_sub hl [1, 0] rfl) hP hD hS
  intro t13 e9 ls H locs hl hP hD hS
  rw [e9] at h
  have h := sm_r h
  refine lv_iconst (v := 1) hx hb dX2_lookForPlacesOfWays_44 (by decide) ?_
  obtain rfl := Option.some.inj h
  exact hret _ _ _ _ _ rfl rfl hP hD hS dX2_lookForPlacesOfWays_45
def f_X2_isField (N : Nat) (zcharacters : Nat → Int32) (zlength : Int32) (ztold_owners : Nat → Int32) (ztold_ranks : Nat → Int32) (ztold_ways : Nat → Int32) (ztold_size : Int32) (zfaultIndex : Int32) (zfaultReason : Int32) (zat : Int32) (zwayNumbers : Nat → Int32) (zwayIndexes : Nat → Int32) (zwayCount : Int32) : Option (Int32 × (Nat → Int32) × (Nat → Int32) × (Nat → Int32) × Int32 × Int32 × Int32 × Int32 × (Nat → Int32) × (Nat → Int32) × Int32) :=
    Option.bind (f_X2_lookAtPlaces N zcharacters zlength ztold_owners ztold_ranks ztold_ways 0 zfaultIndex zfaultReason 0 zwayNumbers zwayIndexes 0) (fun q1 => if q1.1 = 0 then (some (0, q1.2.1, q1.2.2.1, q1.2.2.2.1, q1.2.2.2.2.1, q1.2.2.2.2.2.1, q1.2.2.2.2.2.2.1, q1.2.2.2.2.2.2.2.1, q1.2.2.2.2.2.2.2.2.1, q1.2.2.2.2.2.2.2.2.2.1, q1.2.2.2.2.2.2.2.2.2.2)) else (Option.bind (f_X2_lookForPlacesOfWays N q1.2.2.2.2.1 q1.2.2.2.2.2.1 q1.2.2.2.2.2.2.1 q1.2.2.2.2.2.2.2.2.1 q1.2.2.2.2.2.2.2.2.2.1 q1.2.2.2.2.2.2.2.2.2.2) (fun q4 => if q4.1 = 0 then (some (0, q1.2.1, q1.2.2.1, q1.2.2.2.1, q1.2.2.2.2.1, q4.2.1, q4.2.2, q1.2.2.2.2.2.2.2.1, q1.2.2.2.2.2.2.2.2.1, q1.2.2.2.2.2.2.2.2.2.1, q1.2.2.2.2.2.2.2.2.2.2)) else (some (1, q1.2.1, q1.2.2.1, q1.2.2.2.1, q1.2.2.2.2.1, q4.2.1, q4.2.2, q1.2.2.2.2.2.2.2.1, q1.2.2.2.2.2.2.2.2.1, q1.2.2.2.2.2.2.2.2.2.1, q1.2.2.2.2.2.2.2.2.2.2)))))
set_option maxHeartbeats 4000000 in
set_option maxRecDepth 100000 in
theorem c_X2_isField (l : Launch) (D : va_G) (cI cC cH : ClassId) (a0 : Nat) (a_characters : Nat) (a_told : Nat) (a_wayNumbers : Nat) (a_wayIndexes : Nat) (a_told_owners : Nat) (a_told_ranks : Nat) (a_told_ways : Nat) (N : Nat) (zcharacters : Nat → Int32) (zlength : Int32) (ztold_owners : Nat → Int32) (ztold_ranks : Nat → Int32) (ztold_ways : Nat → Int32) (ztold_size : Int32) (zfaultIndex : Int32) (zfaultReason : Int32) (zat : Int32) (zwayNumbers : Nat → Int32) (zwayIndexes : Nat → Int32) (zwayCount : Int32) (y : Int32 × (Nat → Int32) × (Nat → Int32) × (Nat → Int32) × Int32 × Int32 × Int32 × Int32 × (Nat → Int32) × (Nat → Int32) × Int32) (h : f_X2_isField N zcharacters zlength ztold_owners ztold_ranks ztold_ways ztold_size zfaultIndex zfaultReason zat zwayNumbers zwayIndexes zwayCount = some y) : CTi l yX2_isField cX2_isField 1 (some .boolean) 5 111 D (tyL cI cC cH) [.ref a0] [(a0, .inr (1, [.ref a_characters, .int zlength, .ref a_told, .int zfaultIndex, .int zfaultReason, .int zat, .ref a_wayNumbers, .ref a_wayIndexes, .int zwayCount])), (a_characters, .inl (cC, 80, .inl zcharacters)), (a_told, .inr (0, [.ref a_told_owners, .ref a_told_ranks, .ref a_told_ways, .int ztold_size])), (a_told_owners, .inl (cI, 12, .inl ztold_owners)), (a_told_ranks, .inl (cI, 12, .inl ztold_ranks)), (a_told_ways, .inl (cI, 12, .inl ztold_ways)), (a_wayNumbers, .inl (cI, 80, .inl zwayNumbers)), (a_wayIndexes, .inl (cI, 80, .inl zwayIndexes))] [(a0, .inr (1, [.ref a_characters, .int zlength, .ref a_told, .int y.2.2.2.2.2.1, .int y.2.2.2.2.2.2.1, .int y.2.2.2.2.2.2.2.1, .ref a_wayNumbers, .ref a_wayIndexes, .int y.2.2.2.2.2.2.2.2.2.2])), (a_characters, .inl (cC, 80, .inl zcharacters)), (a_told, .inr (0, [.ref a_told_owners, .ref a_told_ranks, .ref a_told_ways, .int y.2.2.2.2.1])), (a_told_owners, .inl (cI, 12, .inl y.2.1)), (a_told_ranks, .inl (cI, 12, .inl y.2.2.1)), (a_told_ways, .inl (cI, 12, .inl y.2.2.2.1)), (a_wayNumbers, .inl (cI, 80, .inl y.2.2.2.2.2.2.2.2.1)), (a_wayIndexes, .inl (cI, 80, .inl y.2.2.2.2.2.2.2.2.2.1))] y.1 := by
  unfold f_X2_isField at h
  refine ctZ (by decide) (Nat.le_of_ble_eq_true rfl) ?_
  intro p e s m args below meth c A Q ls F hret hP hD hS hl
  have hx := F.1
  have hb := F.2.1
  have hown : s.vm.findClass RX2 = some m.cls := F.2.2.2.1
  have hts := F.2.2.2.2.1
  have hN := F.2.2.2.2.2.1
  have hK := F.2.2.2.2.2.2.1
  have hl : lv_has ls 1 [(0, .ref a0)] := hl
  refine lv_aload_n hx hb dX2_isField_0 rfl (lv_at hl 0 rfl) ?_
  refine lv_iconst (v := 0) hx hb dX2_isField_1 (by decide) ?_
  refine va_put (D := D) (ci := 1) (v := .int 0) (ty := .int) (C := RX2) (T := TX2) (N := 9) hx hb hts inG2 tyX2 tyX2_ok nmX2 hown hK hP hD hS 0 rfl rfl 5 (by decide) (hts _ wd1_62) (fun _ h9 => h9) rfl (by decide +kernel) rfl rfl (Nat.le_of_ble_eq_true rfl) dX2_isField_2 (fun H locs hP hD hS => ?_)
  have hP : va_P D vwCl [(a0, .inr (1, [.ref a_characters, .int zlength, .ref a_told, .int zfaultIndex, .int zfaultReason, .int 0, .ref a_wayNumbers, .ref a_wayIndexes, .int zwayCount])), (a_characters, .inl (cC, 80, .inl zcharacters)), (a_told, .inr (0, [.ref a_told_owners, .ref a_told_ranks, .ref a_told_ways, .int ztold_size])), (a_told_owners, .inl (cI, 12, .inl ztold_owners)), (a_told_ranks, .inl (cI, 12, .inl ztold_ranks)), (a_told_ways, .inl (cI, 12, .inl ztold_ways)), (a_wayNumbers, .inl (cI, 80, .inl zwayNumbers)), (a_wayIndexes, .inl (cI, 80, .inl zwayIndexes))] H := hP
  have hD : va_D A [(a0, .inr (1, [.ref a_characters, .int zlength, .ref a_told, .int zfaultIndex, .int zfaultReason, .int 0, .ref a_wayNumbers, .ref a_wayIndexes, .int zwayCount])), (a_characters, .inl (cC, 80, .inl zcharacters)), (a_told, .inr (0, [.ref a_told_owners, .ref a_told_ranks, .ref a_told_ways, .int ztold_size])), (a_told_owners, .inl (cI, 12, .inl ztold_owners)), (a_told_ranks, .inl (cI, 12, .inl ztold_ranks)), (a_told_ways, .inl (cI, 12, .inl ztold_ways)), (a_wayNumbers, .inl (cI, 80, .inl zwayNumbers)), (a_wayIndexes, .inl (cI, 80, .inl zwayIndexes))] := hD
  refine lv_aload_n hx hb dX2_isField_5 rfl (lv_at hl 0 rfl) ?_
  refine lv_iconst (v := 0) hx hb dX2_isField_6 (by decide) ?_
  refine va_put (D := D) (ci := 1) (v := .int 0) (ty := .int) (C := RX2) (T := TX2) (N := 9) hx hb hts inG2 tyX2 tyX2_ok nmX2 hown hK hP hD hS 0 rfl rfl 8 (by decide) (hts _ wd1_65) (fun _ h9 => h9) rfl (by decide +kernel) rfl rfl (Nat.le_of_ble_eq_true rfl) dX2_isField_7 (fun H locs hP hD hS => ?_)
  have hP : va_P D vwCl [(a0, .inr (1, [.ref a_characters, .int zlength, .ref a_told, .int zfaultIndex, .int zfaultReason, .int 0, .ref a_wayNumbers, .ref a_wayIndexes, .int 0])), (a_characters, .inl (cC, 80, .inl zcharacters)), (a_told, .inr (0, [.ref a_told_owners, .ref a_told_ranks, .ref a_told_ways, .int ztold_size])), (a_told_owners, .inl (cI, 12, .inl ztold_owners)), (a_told_ranks, .inl (cI, 12, .inl ztold_ranks)), (a_told_ways, .inl (cI, 12, .inl ztold_ways)), (a_wayNumbers, .inl (cI, 80, .inl zwayNumbers)), (a_wayIndexes, .inl (cI, 80, .inl zwayIndexes))] H := hP
  have hD : va_D A [(a0, .inr (1, [.ref a_characters, .int zlength, .ref a_told, .int zfaultIndex, .int zfaultReason, .int 0, .ref a_wayNumbers, .ref a_wayIndexes, .int 0])), (a_characters, .inl (cC, 80, .inl zcharacters)), (a_told, .inr (0, [.ref a_told_owners, .ref a_told_ranks, .ref a_told_ways, .int ztold_size])), (a_told_owners, .inl (cI, 12, .inl ztold_owners)), (a_told_ranks, .inl (cI, 12, .inl ztold_ranks)), (a_told_ways, .inl (cI, 12, .inl ztold_ways)), (a_wayNumbers, .inl (cI, 80, .inl zwayNumbers)), (a_wayIndexes, .inl (cI, 80, .inl zwayIndexes))] := hD
  refine lv_aload_n hx hb dX2_isField_10 rfl (lv_at hl 0 rfl) ?_
  refine va_get (D := D) (ci := 1) (v := .ref a_told) (C := RX2) (T := TX2) (N := 9) hx hb hts inG2 hown hK hP 0 rfl rfl 2 (by decide) (hts _ wd1_56) (fun _ h9 => h9) rfl dX2_isField_11 ?_
  refine lv_iconst (v := 0) hx hb dX2_isField_14 (by decide) ?_
  refine va_put (D := D) (ci := 0) (v := .int 0) (ty := .int) (C := RX0) (T := TX0) (N := 4) hx hb hts inG0 tyX0 tyX0_ok nmX0 hown hK hP hD hS 2 rfl rfl 3 (by decide) (hts _ wd1_32) (fun _ h9 => h9) rfl (by decide +kernel) rfl rfl (Nat.le_of_ble_eq_true rfl) dX2_isField_15 (fun H locs hP hD hS => ?_)
  have hP : va_P D vwCl [(a0, .inr (1, [.ref a_characters, .int zlength, .ref a_told, .int zfaultIndex, .int zfaultReason, .int 0, .ref a_wayNumbers, .ref a_wayIndexes, .int 0])), (a_characters, .inl (cC, 80, .inl zcharacters)), (a_told, .inr (0, [.ref a_told_owners, .ref a_told_ranks, .ref a_told_ways, .int 0])), (a_told_owners, .inl (cI, 12, .inl ztold_owners)), (a_told_ranks, .inl (cI, 12, .inl ztold_ranks)), (a_told_ways, .inl (cI, 12, .inl ztold_ways)), (a_wayNumbers, .inl (cI, 80, .inl zwayNumbers)), (a_wayIndexes, .inl (cI, 80, .inl zwayIndexes))] H := hP
  have hD : va_D A [(a0, .inr (1, [.ref a_characters, .int zlength, .ref a_told, .int zfaultIndex, .int zfaultReason, .int 0, .ref a_wayNumbers, .ref a_wayIndexes, .int 0])), (a_characters, .inl (cC, 80, .inl zcharacters)), (a_told, .inr (0, [.ref a_told_owners, .ref a_told_ranks, .ref a_told_ways, .int 0])), (a_told_owners, .inl (cI, 12, .inl ztold_owners)), (a_told_ranks, .inl (cI, 12, .inl ztold_ranks)), (a_told_ways, .inl (cI, 12, .inl ztold_ways)), (a_wayNumbers, .inl (cI, 80, .inl zwayNumbers)), (a_wayIndexes, .inl (cI, 80, .inl zwayIndexes))] := hD
  refine lv_aload_n hx hb dX2_isField_18 rfl (lv_at hl 0 rfl) ?_
  obtain ⟨q1, hq2, h⟩ := bd h
  refine kvI (ws' := [(a0, .inr (1, [.ref a_characters, .int zlength, .ref a_told, .int q1.2.2.2.2.2.1, .int q1.2.2.2.2.2.2.1, .int q1.2.2.2.2.2.2.2.1, .ref a_wayNumbers, .ref a_wayIndexes, .int q1.2.2.2.2.2.2.2.2.2.2])), (a_characters, .inl (cC, 80, .inl zcharacters)), (a_told, .inr (0, [.ref a_told_owners, .ref a_told_ranks, .ref a_told_ways, .int q1.2.2.2.2.1])), (a_told_owners, .inl (cI, 12, .inl q1.2.1)), (a_told_ranks, .inl (cI, 12, .inl q1.2.2.1)), (a_told_ways, .inl (cI, 12, .inl q1.2.2.2.1)), (a_wayNumbers, .inl (cI, 80, .inl q1.2.2.2.2.2.2.2.2.1)), (a_wayIndexes, .inl (cI, 80, .inl q1.2.2.2.2.2.2.2.2.2.1))]) (wr := []) (As := []) F (c_X2_lookAtPlaces l D cI cC cH a0 a_characters a_told a_wayNumbers a_wayIndexes a_told_owners a_told_ranks a_told_ways N zcharacters zlength ztold_owners ztold_ranks ztold_ways 0 zfaultIndex zfaultReason 0 zwayNumbers zwayIndexes 0 q1 hq2) yfX2_lookAtPlaces ⟨wd2_56, wd2_58, wdp_8⟩ hP hD hS [0, 1, 2, 3, 4, 5, 6, 7] [] [0, 1, 2, 3, 4, 5, 6, 7] rfl rfl (by decide) (by decide) (by decide) rfl (by decide) 0 1 rfl rfl rfl ⟨Nat.le_of_ble_eq_true rfl, Nat.le_of_ble_eq_true rfl, Nat.zero_le _, Nat.zero_le _⟩ rfl hl rfl (Nat.le_of_ble_eq_true rfl) dX2_isField_19 (fun H locs hP hD hS => ?_)
  refine lv_if_eq (tgt := 36) hx hb dX2_isField_22 (by decide) (fun c3 => ?_) (fun c3 => ?_)
  · have h := itT h c3
    refine lv_iconst (v := 0) hx hb dX2_isField_36 (by decide) ?_
    obtain rfl := Option.some.inj h
    exact hret _ _ _ _ _ rfl rfl hP hD hS dX2_isField_37
  · have h := itF h c3
    refine lv_aload_n hx hb dX2_isField_25 rfl (lv_at hl 0 rfl) ?_
    obtain ⟨q4, hq5, h⟩ := bd h
    refine kvI (ws' := [(a0, .inr (1, [.ref a_characters, .int zlength, .ref a_told, .int q4.2.1, .int q4.2.2, .int q1.2.2.2.2.2.2.2.1, .ref a_wayNumbers, .ref a_wayIndexes, .int q1.2.2.2.2.2.2.2.2.2.2])), (a_characters, .inl (cC, 80, .inl zcharacters)), (a_told, .inr (0, [.ref a_told_owners, .ref a_told_ranks, .ref a_told_ways, .int q1.2.2.2.2.1])), (a_told_owners, .inl (cI, 12, .inl q1.2.1)), (a_told_ranks, .inl (cI, 12, .inl q1.2.2.1)), (a_told_ways, .inl (cI, 12, .inl q1.2.2.2.1)), (a_wayNumbers, .inl (cI, 80, .inl q1.2.2.2.2.2.2.2.2.1)), (a_wayIndexes, .inl (cI, 80, .inl q1.2.2.2.2.2.2.2.2.2.1))]) (wr := [(a_characters, .inl (cC, 80, .inl zcharacters)), (a_told_owners, .inl (cI, 12, .inl q1.2.1)), (a_told_ranks, .inl (cI, 12, .inl q1.2.2.1)), (a_told_ways, .inl (cI, 12, .inl q1.2.2.2.1))]) (As := []) F (c_X2_lookForPlacesOfWays l D cI cC cH a0 a_characters a_told a_wayNumbers a_wayIndexes a_told_owners a_told_ranks a_told_ways N zlength q1.2.2.2.2.1 q1.2.2.2.2.2.1 q1.2.2.2.2.2.2.1 q1.2.2.2.2.2.2.2.1 q1.2.2.2.2.2.2.2.2.1 q1.2.2.2.2.2.2.2.2.2.1 q1.2.2.2.2.2.2.2.2.2.2 q4 hq5) yfX2_lookForPlacesOfWays ⟨wd2_91, wd2_93, wdp_16⟩ hP hD hS [0, 2, 6, 7] [1, 3, 4, 5] [4, 0, 5, 1, 2, 3, 6, 7] rfl rfl (by decide) (by decide) (by decide) rfl (by decide) 0 1 rfl rfl rfl ⟨Nat.le_of_ble_eq_true rfl, Nat.le_of_ble_eq_true rfl, Nat.zero_le _, Nat.zero_le _⟩ rfl hl rfl (Nat.le_of_ble_eq_true rfl) dX2_isField_26 (fun H locs hP hD hS => ?_)
    refine lv_if_eq (tgt := 36) hx hb dX2_isField_29 (by decide) (fun c6 => ?_) (fun c6 => ?_)
    · have h := itT h c6
      refine lv_iconst (v := 0) hx hb dX2_isField_36 (by decide) ?_
      obtain rfl := Option.some.inj h
      exact hret _ _ _ _ _ rfl rfl hP hD hS dX2_isField_37
    · have h := itF h c6
      refine lv_iconst (v := 1) hx hb dX2_isField_32 (by decide) ?_
      refine lv_goto (tgt := 37) hx hb dX2_isField_33 (by decide) ?_
      obtain rfl := Option.some.inj h
      exact hret _ _ _ _ _ rfl rfl hP hD hS dX2_isField_37
