theorem wdmax : Cond.code Lib.Math.max.name Lib.Math.max.code 2 (some .int) ∈ wG := wd1_210
theorem neI {x k : Int32} {z : Int} (h : ¬ x = k) (hz : k.toInt = z) : x.toInt ≠ z := fun e => h (Int32.toInt_inj.mp (e.trans hz.symm))
theorem sm_r {α β γ : Type} {t : β} {f : α → γ} {g : β → γ} {y : γ} (h : sm (.inr t) f g = y) : g t = y := h
def f_J6_bitCount_0f7a4 (N : Nat) (x0 : Int32) : Option (Int32) :=
    some ((((((((x0 - (((Int32.toUInt32 x0 >>> (Int32.toUInt32 1 &&& Int32.toUInt32 31)).toInt32) &&& 1431655765)) &&& 858993459) + (((Int32.toUInt32 (x0 - (((Int32.toUInt32 x0 >>> (Int32.toUInt32 1 &&& Int32.toUInt32 31)).toInt32) &&& 1431655765)) >>> (Int32.toUInt32 2 &&& Int32.toUInt32 31)).toInt32) &&& 858993459)) + ((Int32.toUInt32 (((x0 - (((Int32.toUInt32 x0 >>> (Int32.toUInt32 1 &&& Int32.toUInt32 31)).toInt32) &&& 1431655765)) &&& 858993459) + (((Int32.toUInt32 (x0 - (((Int32.toUInt32 x0 >>> (Int32.toUInt32 1 &&& Int32.toUInt32 31)).toInt32) &&& 1431655765)) >>> (Int32.toUInt32 2 &&& Int32.toUInt32 31)).toInt32) &&& 858993459)) >>> (Int32.toUInt32 4 &&& Int32.toUInt32 31)).toInt32)) &&& 252645135) + ((Int32.toUInt32 (((((x0 - (((Int32.toUInt32 x0 >>> (Int32.toUInt32 1 &&& Int32.toUInt32 31)).toInt32) &&& 1431655765)) &&& 858993459) + (((Int32.toUInt32 (x0 - (((Int32.toUInt32 x0 >>> (Int32.toUInt32 1 &&& Int32.toUInt32 31)).toInt32) &&& 1431655765)) >>> (Int32.toUInt32 2 &&& Int32.toUInt32 31)).toInt32) &&& 858993459)) + ((Int32.toUInt32 (((x0 - (((Int32.toUInt32 x0 >>> (Int32.toUInt32 1 &&& Int32.toUInt32 31)).toInt32) &&& 1431655765)) &&& 858993459) + (((Int32.toUInt32 (x0 - (((Int32.toUInt32 x0 >>> (Int32.toUInt32 1 &&& Int32.toUInt32 31)).toInt32) &&& 1431655765)) >>> (Int32.toUInt32 2 &&& Int32.toUInt32 31)).toInt32) &&& 858993459)) >>> (Int32.toUInt32 4 &&& Int32.toUInt32 31)).toInt32)) &&& 252645135) >>> (Int32.toUInt32 8 &&& Int32.toUInt32 31)).toInt32)) + ((Int32.toUInt32 ((((((x0 - (((Int32.toUInt32 x0 >>> (Int32.toUInt32 1 &&& Int32.toUInt32 31)).toInt32) &&& 1431655765)) &&& 858993459) + (((Int32.toUInt32 (x0 - (((Int32.toUInt32 x0 >>> (Int32.toUInt32 1 &&& Int32.toUInt32 31)).toInt32) &&& 1431655765)) >>> (Int32.toUInt32 2 &&& Int32.toUInt32 31)).toInt32) &&& 858993459)) + ((Int32.toUInt32 (((x0 - (((Int32.toUInt32 x0 >>> (Int32.toUInt32 1 &&& Int32.toUInt32 31)).toInt32) &&& 1431655765)) &&& 858993459) + (((Int32.toUInt32 (x0 - (((Int32.toUInt32 x0 >>> (Int32.toUInt32 1 &&& Int32.toUInt32 31)).toInt32) &&& 1431655765)) >>> (Int32.toUInt32 2 &&& Int32.toUInt32 31)).toInt32) &&& 858993459)) >>> (Int32.toUInt32 4 &&& Int32.toUInt32 31)).toInt32)) &&& 252645135) + ((Int32.toUInt32 (((((x0 - (((Int32.toUInt32 x0 >>> (Int32.toUInt32 1 &&& Int32.toUInt32 31)).toInt32) &&& 1431655765)) &&& 858993459) + (((Int32.toUInt32 (x0 - (((Int32.toUInt32 x0 >>> (Int32.toUInt32 1 &&& Int32.toUInt32 31)).toInt32) &&& 1431655765)) >>> (Int32.toUInt32 2 &&& Int32.toUInt32 31)).toInt32) &&& 858993459)) + ((Int32.toUInt32 (((x0 - (((Int32.toUInt32 x0 >>> (Int32.toUInt32 1 &&& Int32.toUInt32 31)).toInt32) &&& 1431655765)) &&& 858993459) + (((Int32.toUInt32 (x0 - (((Int32.toUInt32 x0 >>> (Int32.toUInt32 1 &&& Int32.toUInt32 31)).toInt32) &&& 1431655765)) >>> (Int32.toUInt32 2 &&& Int32.toUInt32 31)).toInt32) &&& 858993459)) >>> (Int32.toUInt32 4 &&& Int32.toUInt32 31)).toInt32)) &&& 252645135) >>> (Int32.toUInt32 8 &&& Int32.toUInt32 31)).toInt32)) >>> (Int32.toUInt32 16 &&& Int32.toUInt32 31)).toInt32)) &&& 63)
set_option maxHeartbeats 4000000 in
set_option maxRecDepth 100000 in
theorem c_J6_bitCount_0f7a4 (l : Launch) (D : va_G) (cI cC cH : ClassId) (N : Nat) (x0 : Int32) (y : Int32) (h : f_J6_bitCount_0f7a4 N x0 = some y) : CTi l yJ6_bitCount_0f7a4 cJ6_bitCount_0f7a4 1 (some .int) 0 0 D (tyL cI cC cH) [.int x0] [] [] y := by
  unfold f_J6_bitCount_0f7a4 at h
  refine ctI (by decide) (Nat.le_of_ble_eq_true rfl) ?_
  intro p e s m args below meth c A Q ls F hret hP hD hS hl
  have hx := F.1
  have hb := F.2.1
  have hown : s.vm.findClass RJ6 = some m.cls := F.2.2.2.1
  have hts := F.2.2.2.2.1
  have hN := F.2.2.2.2.2.1
  have hK := F.2.2.2.2.2.2.1
  have hl : lv_has ls 1 [(0, .int x0)] := hl
  refine lv_iload_n hx hb dJ6_bitCount_0f7a4_0 rfl (lv_at hl 0 rfl) ?_
  refine lv_iload_n hx hb dJ6_bitCount_0f7a4_1 rfl (lv_at hl 0 rfl) ?_
  refine lv_iconst (v := 1) hx hb dJ6_bitCount_0f7a4_2 (by decide) ?_
  refine lv_iushr hx hb dJ6_bitCount_0f7a4_3 rfl ?_
  refine lv_ldcw (v := 1431655765) hx hb hown (hts _ wd1_200) dJ6_bitCount_0f7a4_4 ?_
  refine lv_iand hx hb dJ6_bitCount_0f7a4_7 ?_
  refine lv_isub hx hb dJ6_bitCount_0f7a4_8 ?_
  refine lv_istore_n (lv' := [(0, .int (x0 - (((Int32.toUInt32 x0 >>> (Int32.toUInt32 1 &&& Int32.toUInt32 31)).toInt32) &&& 1431655765)))]) hx hb dJ6_bitCount_0f7a4_9 rfl hl (by decide) rfl (fun ls hl => ?_)
  refine lv_iload_n hx hb dJ6_bitCount_0f7a4_10 rfl (lv_at hl 0 rfl) ?_
  refine lv_ldcw (v := 858993459) hx hb hown (hts _ wd1_201) dJ6_bitCount_0f7a4_11 ?_
  refine lv_iand hx hb dJ6_bitCount_0f7a4_14 ?_
  refine lv_iload_n hx hb dJ6_bitCount_0f7a4_15 rfl (lv_at hl 0 rfl) ?_
  refine lv_iconst (v := 2) hx hb dJ6_bitCount_0f7a4_16 (by decide) ?_
  refine lv_iushr hx hb dJ6_bitCount_0f7a4_17 rfl ?_
  refine lv_ldcw (v := 858993459) hx hb hown (hts _ wd1_201) dJ6_bitCount_0f7a4_18 ?_
  refine lv_iand hx hb dJ6_bitCount_0f7a4_21 ?_
  refine lv_iadd hx hb dJ6_bitCount_0f7a4_22 ?_
  refine lv_istore_n (lv' := [(0, .int (((x0 - (((Int32.toUInt32 x0 >>> (Int32.toUInt32 1 &&& Int32.toUInt32 31)).toInt32) &&& 1431655765)) &&& 858993459) + (((Int32.toUInt32 (x0 - (((Int32.toUInt32 x0 >>> (Int32.toUInt32 1 &&& Int32.toUInt32 31)).toInt32) &&& 1431655765)) >>> (Int32.toUInt32 2 &&& Int32.toUInt32 31)).toInt32) &&& 858993459)))]) hx hb dJ6_bitCount_0f7a4_23 rfl hl (by decide) rfl (fun ls hl => ?_)
  refine lv_iload_n hx hb dJ6_bitCount_0f7a4_24 rfl (lv_at hl 0 rfl) ?_
  refine lv_iload_n hx hb dJ6_bitCount_0f7a4_25 rfl (lv_at hl 0 rfl) ?_
  refine lv_iconst (v := 4) hx hb dJ6_bitCount_0f7a4_26 (by decide) ?_
  refine lv_iushr hx hb dJ6_bitCount_0f7a4_27 rfl ?_
  refine lv_iadd hx hb dJ6_bitCount_0f7a4_28 ?_
  refine lv_ldcw (v := 252645135) hx hb hown (hts _ wd1_202) dJ6_bitCount_0f7a4_29 ?_
  refine lv_iand hx hb dJ6_bitCount_0f7a4_32 ?_
  refine lv_istore_n (lv' := [(0, .int (((((x0 - (((Int32.toUInt32 x0 >>> (Int32.toUInt32 1 &&& Int32.toUInt32 31)).toInt32) &&& 1431655765)) &&& 858993459) + (((Int32.toUInt32 (x0 - (((Int32.toUInt32 x0 >>> (Int32.toUInt32 1 &&& Int32.toUInt32 31)).toInt32) &&& 1431655765)) >>> (Int32.toUInt32 2 &&& Int32.toUInt32 31)).toInt32) &&& 858993459)) + ((Int32.toUInt32 (((x0 - (((Int32.toUInt32 x0 >>> (Int32.toUInt32 1 &&& Int32.toUInt32 31)).toInt32) &&& 1431655765)) &&& 858993459) + (((Int32.toUInt32 (x0 - (((Int32.toUInt32 x0 >>> (Int32.toUInt32 1 &&& Int32.toUInt32 31)).toInt32) &&& 1431655765)) >>> (Int32.toUInt32 2 &&& Int32.toUInt32 31)).toInt32) &&& 858993459)) >>> (Int32.toUInt32 4 &&& Int32.toUInt32 31)).toInt32)) &&& 252645135))]) hx hb dJ6_bitCount_0f7a4_33 rfl hl (by decide) rfl (fun ls hl => ?_)
  refine lv_iload_n hx hb dJ6_bitCount_0f7a4_34 rfl (lv_at hl 0 rfl) ?_
  refine lv_iload_n hx hb dJ6_bitCount_0f7a4_35 rfl (lv_at hl 0 rfl) ?_
  refine lv_bipush (v := 8) hx hb dJ6_bitCount_0f7a4_36 (by decide) ?_
  refine lv_iushr hx hb dJ6_bitCount_0f7a4_38 rfl ?_
  refine lv_iadd hx hb dJ6_bitCount_0f7a4_39 ?_
  refine lv_istore_n (lv' := [(0, .int ((((((x0 - (((Int32.toUInt32 x0 >>> (Int32.toUInt32 1 &&& Int32.toUInt32 31)).toInt32) &&& 1431655765)) &&& 858993459) + (((Int32.toUInt32 (x0 - (((Int32.toUInt32 x0 >>> (Int32.toUInt32 1 &&& Int32.toUInt32 31)).toInt32) &&& 1431655765)) >>> (Int32.toUInt32 2 &&& Int32.toUInt32 31)).toInt32) &&& 858993459)) + ((Int32.toUInt32 (((x0 - (((Int32.toUInt32 x0 >>> (Int32.toUInt32 1 &&& Int32.toUInt32 31)).toInt32) &&& 1431655765)) &&& 858993459) + (((Int32.toUInt32 (x0 - (((Int32.toUInt32 x0 >>> (Int32.toUInt32 1 &&& Int32.toUInt32 31)).toInt32) &&& 1431655765)) >>> (Int32.toUInt32 2 &&& Int32.toUInt32 31)).toInt32) &&& 858993459)) >>> (Int32.toUInt32 4 &&& Int32.toUInt32 31)).toInt32)) &&& 252645135) + ((Int32.toUInt32 (((((x0 - (((Int32.toUInt32 x0 >>> (Int32.toUInt32 1 &&& Int32.toUInt32 31)).toInt32) &&& 1431655765)) &&& 858993459) + (((Int32.toUInt32 (x0 - (((Int32.toUInt32 x0 >>> (Int32.toUInt32 1 &&& Int32.toUInt32 31)).toInt32) &&& 1431655765)) >>> (Int32.toUInt32 2 &&& Int32.toUInt32 31)).toInt32) &&& 858993459)) + ((Int32.toUInt32 (((x0 - (((Int32.toUInt32 x0 >>> (Int32.toUInt32 1 &&& Int32.toUInt32 31)).toInt32) &&& 1431655765)) &&& 858993459) + (((Int32.toUInt32 (x0 - (((Int32.toUInt32 x0 >>> (Int32.toUInt32 1 &&& Int32.toUInt32 31)).toInt32) &&& 1431655765)) >>> (Int32.toUInt32 2 &&& Int32.toUInt32 31)).toInt32) &&& 858993459)) >>> (Int32.toUInt32 4 &&& Int32.toUInt32 31)).toInt32)) &&& 252645135) >>> (Int32.toUInt32 8 &&& Int32.toUInt32 31)).toInt32)))]) hx hb dJ6_bitCount_0f7a4_40 rfl hl (by decide) rfl (fun ls hl => ?_)
  refine lv_iload_n hx hb dJ6_bitCount_0f7a4_41 rfl (lv_at hl 0 rfl) ?_
  refine lv_iload_n hx hb dJ6_bitCount_0f7a4_42 rfl (lv_at hl 0 rfl) ?_
  refine lv_bipush (v := 16) hx hb dJ6_bitCount_0f7a4_43 (by decide) ?_
  refine lv_iushr hx hb dJ6_bitCount_0f7a4_45 rfl ?_
  refine lv_iadd hx hb dJ6_bitCount_0f7a4_46 ?_
  refine lv_istore_n (lv' := [(0, .int (((((((x0 - (((Int32.toUInt32 x0 >>> (Int32.toUInt32 1 &&& Int32.toUInt32 31)).toInt32) &&& 1431655765)) &&& 858993459) + (((Int32.toUInt32 (x0 - (((Int32.toUInt32 x0 >>> (Int32.toUInt32 1 &&& Int32.toUInt32 31)).toInt32) &&& 1431655765)) >>> (Int32.toUInt32 2 &&& Int32.toUInt32 31)).toInt32) &&& 858993459)) + ((Int32.toUInt32 (((x0 - (((Int32.toUInt32 x0 >>> (Int32.toUInt32 1 &&& Int32.toUInt32 31)).toInt32) &&& 1431655765)) &&& 858993459) + (((Int32.toUInt32 (x0 - (((Int32.toUInt32 x0 >>> (Int32.toUInt32 1 &&& Int32.toUInt32 31)).toInt32) &&& 1431655765)) >>> (Int32.toUInt32 2 &&& Int32.toUInt32 31)).toInt32) &&& 858993459)) >>> (Int32.toUInt32 4 &&& Int32.toUInt32 31)).toInt32)) &&& 252645135) + ((Int32.toUInt32 (((((x0 - (((Int32.toUInt32 x0 >>> (Int32.toUInt32 1 &&& Int32.toUInt32 31)).toInt32) &&& 1431655765)) &&& 858993459) + (((Int32.toUInt32 (x0 - (((Int32.toUInt32 x0 >>> (Int32.toUInt32 1 &&& Int32.toUInt32 31)).toInt32) &&& 1431655765)) >>> (Int32.toUInt32 2 &&& Int32.toUInt32 31)).toInt32) &&& 858993459)) + ((Int32.toUInt32 (((x0 - (((Int32.toUInt32 x0 >>> (Int32.toUInt32 1 &&& Int32.toUInt32 31)).toInt32) &&& 1431655765)) &&& 858993459) + (((Int32.toUInt32 (x0 - (((Int32.toUInt32 x0 >>> (Int32.toUInt32 1 &&& Int32.toUInt32 31)).toInt32) &&& 1431655765)) >>> (Int32.toUInt32 2 &&& Int32.toUInt32 31)).toInt32) &&& 858993459)) >>> (Int32.toUInt32 4 &&& Int32.toUInt32 31)).toInt32)) &&& 252645135) >>> (Int32.toUInt32 8 &&& Int32.toUInt32 31)).toInt32)) + ((Int32.toUInt32 ((((((x0 - (((Int32.toUInt32 x0 >>> (Int32.toUInt32 1 &&& Int32.toUInt32 31)).toInt32) &&& 1431655765)) &&& 858993459) + (((Int32.toUInt32 (x0 - (((Int32.toUInt32 x0 >>> (Int32.toUInt32 1 &&& Int32.toUInt32 31)).toInt32) &&& 1431655765)) >>> (Int32.toUInt32 2 &&& Int32.toUInt32 31)).toInt32) &&& 858993459)) + ((Int32.toUInt32 (((x0 - (((Int32.toUInt32 x0 >>> (Int32.toUInt32 1 &&& Int32.toUInt32 31)).toInt32) &&& 1431655765)) &&& 858993459) + (((Int32.toUInt32 (x0 - (((Int32.toUInt32 x0 >>> (Int32.toUInt32 1 &&& Int32.toUInt32 31)).toInt32) &&& 1431655765)) >>> (Int32.toUInt32 2 &&& Int32.toUInt32 31)).toInt32) &&& 858993459)) >>> (Int32.toUInt32 4 &&& Int32.toUInt32 31)).toInt32)) &&& 252645135) + ((Int32.toUInt32 (((((x0 - (((Int32.toUInt32 x0 >>> (Int32.toUInt32 1 &&& Int32.toUInt32 31)).toInt32) &&& 1431655765)) &&& 858993459) + (((Int32.toUInt32 (x0 - (((Int32.toUInt32 x0 >>> (Int32.toUInt32 1 &&& Int32.toUInt32 31)).toInt32) &&& 1431655765)) >>> (Int32.toUInt32 2 &&& Int32.toUInt32 31)).toInt32) &&& 858993459)) + ((Int32.toUInt32 (((x0 - (((Int32.toUInt32 x0 >>> (Int32.toUInt32 1 &&& Int32.toUInt32 31)).toInt32) &&& 1431655765)) &&& 858993459) + (((Int32.toUInt32 (x0 - (((Int32.toUInt32 x0 >>> (Int32.toUInt32 1 &&& Int32.toUInt32 31)).toInt32) &&& 1431655765)) >>> (Int32.toUInt32 2 &&& Int32.toUInt32 31)).toInt32) &&& 858993459)) >>> (Int32.toUInt32 4 &&& Int32.toUInt32 31)).toInt32)) &&& 252645135) >>> (Int32.toUInt32 8 &&& Int32.toUInt32 31)).toInt32)) >>> (Int32.toUInt32 16 &&& Int32.toUInt32 31)).toInt32)))]) hx hb dJ6_bitCount_0f7a4_47 rfl hl (by decide) rfl (fun ls hl => ?_)
  refine lv_iload_n hx hb dJ6_bitCount_0f7a4_48 rfl (lv_at hl 0 rfl) ?_
  refine lv_bipush (v := 63) hx hb dJ6_bitCount_0f7a4_49 (by decide) ?_
  refine lv_iand hx hb dJ6_bitCount_0f7a4_51 ?_
  obtain rfl := Option.some.inj h
  exact hret _ _ _ _ _ rfl hP hD hS dJ6_bitCount_0f7a4_52
def f_J6_numberOfTrailingZeros_0f7a4 (N : Nat) (x0 : Int32) : Option (Int32) :=
    if 0 < ((x0 ^^^ (-1)) &&& (x0 - 1)) then (Option.bind (α := Int32 × Int32) (if ((x0 ^^^ (-1)) &&& (x0 - 1)) ≤ 65536 then (some ((x0 ^^^ (-1)) &&& (x0 - 1), 1)) else (some ((Int32.toUInt32 ((x0 ^^^ (-1)) &&& (x0 - 1)) >>> (Int32.toUInt32 16 &&& Int32.toUInt32 31)).toInt32, 1 + 16))) (fun q3 => Option.bind (α := Int32 × Int32) (if q3.1 ≤ 256 then (some (q3.1, q3.2)) else (some ((Int32.toUInt32 q3.1 >>> (Int32.toUInt32 8 &&& Int32.toUInt32 31)).toInt32, q3.2 + 8))) (fun q7 => Option.bind (α := Int32 × Int32) (if q7.1 ≤ 16 then (some (q7.1, q7.2)) else (some ((Int32.toUInt32 q7.1 >>> (Int32.toUInt32 4 &&& Int32.toUInt32 31)).toInt32, q7.2 + 4))) (fun q11 => Option.bind (α := Int32 × Int32) (if q11.1 ≤ 4 then (some (q11.1, q11.2)) else (some ((Int32.toUInt32 q11.1 >>> (Int32.toUInt32 2 &&& Int32.toUInt32 31)).toInt32, q11.2 + 2))) (fun q15 => some (q15.2 + ((Int32.toUInt32 q15.1 >>> (Int32.toUInt32 1 &&& Int32.toUInt32 31)).toInt32))))))) else (some (((x0 ^^^ (-1)) &&& (x0 - 1)) &&& 32))
set_option maxHeartbeats 4000000 in
set_option maxRecDepth 100000 in
theorem c_J6_numberOfTrailingZeros_0f7a4 (l : Launch) (D : va_G) (cI cC cH : ClassId) (N : Nat) (x0 : Int32) (y : Int32) (h : f_J6_numberOfTrailingZeros_0f7a4 N x0 = some y) : CTi l yJ6_numberOfTrailingZeros_0f7a4 cJ6_numberOfTrailingZeros_0f7a4 2 (some .int) 0 0 D (tyL cI cC cH) [.int x0] [] [] y := by
  unfold f_J6_numberOfTrailingZeros_0f7a4 at h
  refine ctI (by decide) (Nat.le_of_ble_eq_true rfl) ?_
  intro p e s m args below meth c A Q ls F hret hP hD hS hl
  have hx := F.1
  have hb := F.2.1
  have hown : s.vm.findClass RJ6 = some m.cls := F.2.2.2.1
  have hts := F.2.2.2.2.1
  have hN := F.2.2.2.2.2.1
  have hK := F.2.2.2.2.2.2.1
  have hl : lv_has ls 2 [(0, .int x0)] := hl
  refine lv_iload_n hx hb dJ6_numberOfTrailingZeros_0f7a4_0 rfl (lv_at hl 0 rfl) ?_
  refine lv_iconst (v := (-1)) hx hb dJ6_numberOfTrailingZeros_0f7a4_1 (by decide) ?_
  refine lv_ixor hx hb dJ6_numberOfTrailingZeros_0f7a4_2 ?_
  refine lv_iload_n hx hb dJ6_numberOfTrailingZeros_0f7a4_3 rfl (lv_at hl 0 rfl) ?_
  refine lv_iconst (v := 1) hx hb dJ6_numberOfTrailingZeros_0f7a4_4 (by decide) ?_
  refine lv_isub hx hb dJ6_numberOfTrailingZeros_0f7a4_5 ?_
  refine lv_iand hx hb dJ6_numberOfTrailingZeros_0f7a4_6 ?_
  refine lv_istore_n (lv' := [(0, .int ((x0 ^^^ (-1)) &&& (x0 - 1)))]) hx hb dJ6_numberOfTrailingZeros_0f7a4_7 rfl hl (by decide) rfl (fun ls hl => ?_)
  refine lv_iload_n hx hb dJ6_numberOfTrailingZeros_0f7a4_8 rfl (lv_at hl 0 rfl) ?_
  refine lv_if_gt (tgt := 17) hx hb dJ6_numberOfTrailingZeros_0f7a4_9 (by decide) (fun c1 => ?_) (fun c1 => ?_)
  · have h := itT h c1
    refine lv_iconst (v := 1) hx hb dJ6_numberOfTrailingZeros_0f7a4_17 (by decide) ?_
    refine lv_istore_n (lv' := [(1, .int 1), (0, .int ((x0 ^^^ (-1)) &&& (x0 - 1)))]) hx hb dJ6_numberOfTrailingZeros_0f7a4_18 rfl hl (by decide) rfl (fun ls hl => ?_)
    refine lv_iload_n hx hb dJ6_numberOfTrailingZeros_0f7a4_19 rfl (lv_at hl 1 rfl) ?_
    refine lv_ldcw (v := 65536) hx hb hown (hts _ wd1_188) dJ6_numberOfTrailingZeros_0f7a4_20 ?_
    obtain ⟨q3, hb21, h⟩ := bd h
    have J4 : ∀ (ls : Array Slot) (H : Heap) (locs : List Loc), lv_has ls 2 [(0, .int q3.1), (1, .int q3.2)] → va_P D vwCl [] H → va_D A [] → va_S A s.heap H locs → W p l e (rmm 0 0) s m args below meth c H locs 0 0 Q (F0 m 34 ls []) := by
      intro ls H locs hl hP hD hS
      refine lv_iload_n hx hb dJ6_numberOfTrailingZeros_0f7a4_34 rfl (lv_at hl 0 rfl) ?_
      refine lv_sipush (v := 256) hx hb dJ6_numberOfTrailingZeros_0f7a4_35 (by decide) ?_
      obtain ⟨q7, hb20, h⟩ := bd h
      have J8 : ∀ (ls : Array Slot) (H : Heap) (locs : List Loc), lv_has ls 2 [(0, .int q7.1), (1, .int q7.2)] → va_P D vwCl [] H → va_D A [] → va_S A s.heap H locs → W p l e (rmm 0 0) s m args below meth c H locs 0 0 Q (F0 m 49 ls []) := by
        intro ls H locs hl hP hD hS
        refine lv_iload_n hx hb dJ6_numberOfTrailingZeros_0f7a4_49 rfl (lv_at hl 0 rfl) ?_
        refine lv_bipush (v := 16) hx hb dJ6_numberOfTrailingZeros_0f7a4_50 (by decide) ?_
        obtain ⟨q11, hb19, h⟩ := bd h
        have J12 : ∀ (ls : Array Slot) (H : Heap) (locs : List Loc), lv_has ls 2 [(0, .int q11.1), (1, .int q11.2)] → va_P D vwCl [] H → va_D A [] → va_S A s.heap H locs → W p l e (rmm 0 0) s m args below meth c H locs 0 0 Q (F0 m 62 ls []) := by
          intro ls H locs hl hP hD hS
          refine lv_iload_n hx hb dJ6_numberOfTrailingZeros_0f7a4_62 rfl (lv_at hl 0 rfl) ?_
          refine lv_iconst (v := 4) hx hb dJ6_numberOfTrailingZeros_0f7a4_63 (by decide) ?_
          obtain ⟨q15, hb18, h⟩ := bd h
          have J16 : ∀ (ls : Array Slot) (H : Heap) (locs : List Loc), lv_has ls 2 [(0, .int q15.1), (1, .int q15.2)] → va_P D vwCl [] H → va_D A [] → va_S A s.heap H locs → W p l e (rmm 0 0) s m args below meth c H locs 0 0 Q (F0 m 74 ls []) := by
            intro ls H locs hl hP hD hS
            refine lv_iload_n hx hb dJ6_numberOfTrailingZeros_0f7a4_74 rfl (lv_at hl 1 rfl) ?_
            refine lv_iload_n hx hb dJ6_numberOfTrailingZeros_0f7a4_75 rfl (lv_at hl 0 rfl) ?_
            refine lv_iconst (v := 1) hx hb dJ6_numberOfTrailingZeros_0f7a4_76 (by decide) ?_
            refine lv_iushr hx hb dJ6_numberOfTrailingZeros_0f7a4_77 rfl ?_
            refine lv_iadd hx hb dJ6_numberOfTrailingZeros_0f7a4_78 ?_
            obtain rfl := Option.some.inj h
            exact hret _ _ _ _ _ rfl hP hD hS dJ6_numberOfTrailingZeros_0f7a4_79
          clear h
          have h := hb18
          clear hb18
          refine lv_icmp_le (tgt := 74) hx hb dJ6_numberOfTrailingZeros_0f7a4_64 (by decide) (fun c14 => ?_) (fun c14 => ?_)
          · have h := itT h c14
            obtain rfl := Option.some.inj h
            exact J16 _ _ _ (lv_sub hl [0, 1] rfl) hP hD hS
          · have h := itF h c14
            refine lv_iinc (v := q11.2 + 2) (lv' := [(1, .int (q11.2 + 2)), (0, .int q11.1)]) hx hb dJ6_numberOfTrailingZeros_0f7a4_67 hl (k := 1) rfl rfl (by decide) rfl (fun ls hl => ?_)
            refine lv_iload_n hx hb dJ6_numberOfTrailingZeros_0f7a4_70 rfl (lv_at hl 1 rfl) ?_
            refine lv_iconst (v := 2) hx hb dJ6_numberOfTrailingZeros_0f7a4_71 (by decide) ?_
            refine lv_iushr hx hb dJ6_numberOfTrailingZeros_0f7a4_72 rfl ?_
            refine lv_istore_n (lv' := [(0, .int ((Int32.toUInt32 q11.1 >>> (Int32.toUInt32 2 &&& Int32.toUInt32 31)).toInt32)), (1, .int (q11.2 + 2))]) hx hb dJ6_numberOfTrailingZeros_0f7a4_73 rfl hl (by decide) rfl (fun ls hl => ?_)
            obtain rfl := Option.some.inj h
            exact J16 _ _ _ (lv_sub hl [0, 1] rfl) hP hD hS
        clear h
        have h := hb19
        clear hb19
        refine lv_icmp_le (tgt := 62) hx hb dJ6_numberOfTrailingZeros_0f7a4_52 (by decide) (fun c10 => ?_) (fun c10 => ?_)
        · have h := itT h c10
          obtain rfl := Option.some.inj h
          exact J12 _ _ _ (lv_sub hl [0, 1] rfl) hP hD hS
        · have h := itF h c10
          refine lv_iinc (v := q7.2 + 4) (lv' := [(1, .int (q7.2 + 4)), (0, .int q7.1)]) hx hb dJ6_numberOfTrailingZeros_0f7a4_55 hl (k := 1) rfl rfl (by decide) rfl (fun ls hl => ?_)
          refine lv_iload_n hx hb dJ6_numberOfTrailingZeros_0f7a4_58 rfl (lv_at hl 1 rfl) ?_
          refine lv_iconst (v := 4) hx hb dJ6_numberOfTrailingZeros_0f7a4_59 (by decide) ?_
          refine lv_iushr hx hb dJ6_numberOfTrailingZeros_0f7a4_60 rfl ?_
          refine lv_istore_n (lv' := [(0, .int ((Int32.toUInt32 q7.1 >>> (Int32.toUInt32 4 &&& Int32.toUInt32 31)).toInt32)), (1, .int (q7.2 + 4))]) hx hb dJ6_numberOfTrailingZeros_0f7a4_61 rfl hl (by decide) rfl (fun ls hl => ?_)
          obtain rfl := Option.some.inj h
          exact J12 _ _ _ (lv_sub hl [0, 1] rfl) hP hD hS
      clear h
      have h := hb20
      clear hb20
      refine lv_icmp_le (tgt := 49) hx hb dJ6_numberOfTrailingZeros_0f7a4_38 (by decide) (fun c6 => ?_) (fun c6 => ?_)
      · have h := itT h c6
        obtain rfl := Option.some.inj h
        exact J8 _ _ _ (lv_sub hl [0, 1] rfl) hP hD hS
      · have h := itF h c6
        refine lv_iinc (v := q3.2 + 8) (lv' := [(1, .int (q3.2 + 8)), (0, .int q3.1)]) hx hb dJ6_numberOfTrailingZeros_0f7a4_41 hl (k := 1) rfl rfl (by decide) rfl (fun ls hl => ?_)
        refine lv_iload_n hx hb dJ6_numberOfTrailingZeros_0f7a4_44 rfl (lv_at hl 1 rfl) ?_
        refine lv_bipush (v := 8) hx hb dJ6_numberOfTrailingZeros_0f7a4_45 (by decide) ?_
        refine lv_iushr hx hb dJ6_numberOfTrailingZeros_0f7a4_47 rfl ?_
        refine lv_istore_n (lv' := [(0, .int ((Int32.toUInt32 q3.1 >>> (Int32.toUInt32 8 &&& Int32.toUInt32 31)).toInt32)), (1, .int (q3.2 + 8))]) hx hb dJ6_numberOfTrailingZeros_0f7a4_48 rfl hl (by decide) rfl (fun ls hl => ?_)
        obtain rfl := Option.some.inj h
        exact J8 _ _ _ (lv_sub hl [0, 1] rfl) hP hD hS
    clear h
    have h := hb21
    clear hb21
    refine lv_icmp_le (tgt := 34) hx hb dJ6_numberOfTrailingZeros_0f7a4_23 (by decide) (fun c2 => ?_) (fun c2 => ?_)
    · have h := itT h c2
      obtain rfl := Option.some.inj h
      exact J4 _ _ _ (lv_sub hl [1, 0] rfl) hP hD hS
    · have h := itF h c2
      refine lv_iinc (v := 1 + 16) (lv' := [(1, .int (1 + 16)), (0, .int ((x0 ^^^ (-1)) &&& (x0 - 1)))]) hx hb dJ6_numberOfTrailingZeros_0f7a4_26 hl (k := 0) rfl rfl (by decide) rfl (fun ls hl => ?_)
      refine lv_iload_n hx hb dJ6_numberOfTrailingZeros_0f7a4_29 rfl (lv_at hl 1 rfl) ?_
      refine lv_bipush (v := 16) hx hb dJ6_numberOfTrailingZeros_0f7a4_30 (by decide) ?_
      refine lv_iushr hx hb dJ6_numberOfTrailingZeros_0f7a4_32 rfl ?_
      refine lv_istore_n (lv' := [(0, .int ((Int32.toUInt32 ((x0 ^^^ (-1)) &&& (x0 - 1)) >>> (Int32.toUInt32 16 &&& Int32.toUInt32 31)).toInt32)), (1, .int (1 + 16))]) hx hb dJ6_numberOfTrailingZeros_0f7a4_33 rfl hl (by decide) rfl (fun ls hl => ?_)
      obtain rfl := Option.some.inj h
      exact J4 _ _ _ (lv_sub hl [0, 1] rfl) hP hD hS
  · have h := itF h c1
    refine lv_iload_n hx hb dJ6_numberOfTrailingZeros_0f7a4_12 rfl (lv_at hl 0 rfl) ?_
    refine lv_bipush (v := 32) hx hb dJ6_numberOfTrailingZeros_0f7a4_13 (by decide) ?_
    refine lv_iand hx hb dJ6_numberOfTrailingZeros_0f7a4_15 ?_
    obtain rfl := Option.some.inj h
    exact hret _ _ _ _ _ rfl hP hD hS dJ6_numberOfTrailingZeros_0f7a4_16
def f_X3_contains (N : Nat) (x0 : Int32) (x1 : Int32) : Option (Int32) :=
    if ((x0 >>> (x1 &&& 31)) &&& 1) = 1 then (some 1) else (some 0)
set_option maxHeartbeats 4000000 in
set_option maxRecDepth 100000 in
theorem c_X3_contains (l : Launch) (D : va_G) (cI cC cH : ClassId) (N : Nat) (x0 : Int32) (x1 : Int32) (y : Int32) (h : f_X3_contains N x0 x1 = some y) : CTi l yX3_contains cX3_contains 2 (some .boolean) 0 0 D (tyL cI cC cH) [.int x0, .int x1] [] [] y := by
  unfold f_X3_contains at h
  refine ctZ (by decide) (Nat.le_of_ble_eq_true rfl) ?_
  intro p e s m args below meth c A Q ls F hret hP hD hS hl
  have hx := F.1
  have hb := F.2.1
  have hown : s.vm.findClass RX3 = some m.cls := F.2.2.2.1
  have hts := F.2.2.2.2.1
  have hN := F.2.2.2.2.2.1
  have hK := F.2.2.2.2.2.2.1
  have hl : lv_has ls 2 [(0, .int x0), (1, .int x1)] := hl
  refine lv_iload_n hx hb dX3_contains_0 rfl (lv_at hl 0 rfl) ?_
  refine lv_iload_n hx hb dX3_contains_1 rfl (lv_at hl 1 rfl) ?_
  refine lv_ishr hx hb dX3_contains_2 ?_
  refine lv_iconst (v := 1) hx hb dX3_contains_3 (by decide) ?_
  refine lv_iand hx hb dX3_contains_4 ?_
  refine lv_iconst (v := 1) hx hb dX3_contains_5 (by decide) ?_
  refine lv_icmp_ne (tgt := 13) hx hb dX3_contains_6 (by decide) (fun c1 => ?_) (fun c1 => ?_)
  · have h := itF h c1
    refine lv_iconst (v := 0) hx hb dX3_contains_13 (by decide) ?_
    obtain rfl := Option.some.inj h
    exact hret _ _ _ _ _ rfl rfl hP hD hS dX3_contains_14
  · have h := itT h c1
    refine lv_iconst (v := 1) hx hb dX3_contains_9 (by decide) ?_
    refine lv_goto (tgt := 14) hx hb dX3_contains_10 (by decide) ?_
    obtain rfl := Option.some.inj h
    exact hret _ _ _ _ _ rfl rfl hP hD hS dX3_contains_14
def f_X3_isRank (N : Nat) (x0 : Int32) : Option (Int32) :=
    if x0 < 0 then (some 0) else (if 6 ≤ x0 then (some 0) else (some 1))
set_option maxHeartbeats 4000000 in
set_option maxRecDepth 100000 in
theorem c_X3_isRank (l : Launch) (D : va_G) (cI cC cH : ClassId) (N : Nat) (x0 : Int32) (y : Int32) (h : f_X3_isRank N x0 = some y) : CTi l yX3_isRank cX3_isRank 1 (some .boolean) 0 0 D (tyL cI cC cH) [.int x0] [] [] y := by
  unfold f_X3_isRank at h
  refine ctZ (by decide) (Nat.le_of_ble_eq_true rfl) ?_
  intro p e s m args below meth c A Q ls F hret hP hD hS hl
  have hx := F.1
  have hb := F.2.1
  have hown : s.vm.findClass RX3 = some m.cls := F.2.2.2.1
  have hts := F.2.2.2.2.1
  have hN := F.2.2.2.2.2.1
  have hK := F.2.2.2.2.2.2.1
  have hl : lv_has ls 1 [(0, .int x0)] := hl
  refine lv_iload_n hx hb dX3_isRank_0 rfl (lv_at hl 0 rfl) ?_
  refine lv_if_lt (tgt := 14) hx hb dX3_isRank_1 (by decide) (fun c1 => ?_) (fun c1 => ?_)
  · have h := itT h c1
    refine lv_iconst (v := 0) hx hb dX3_isRank_14 (by decide) ?_
    obtain rfl := Option.some.inj h
    exact hret _ _ _ _ _ rfl rfl hP hD hS dX3_isRank_15
  · have h := itF h c1
    refine lv_iload_n hx hb dX3_isRank_4 rfl (lv_at hl 0 rfl) ?_
    refine lv_bipush (v := 6) hx hb dX3_isRank_5 (by decide) ?_
    refine lv_icmp_ge (tgt := 14) hx hb dX3_isRank_7 (by decide) (fun c2 => ?_) (fun c2 => ?_)
    · have h := itT h c2
      refine lv_iconst (v := 0) hx hb dX3_isRank_14 (by decide) ?_
      obtain rfl := Option.some.inj h
      exact hret _ _ _ _ _ rfl rfl hP hD hS dX3_isRank_15
    · have h := itF h c2
      refine lv_iconst (v := 1) hx hb dX3_isRank_10 (by decide) ?_
      refine lv_goto (tgt := 15) hx hb dX3_isRank_11 (by decide) ?_
      obtain rfl := Option.some.inj h
      exact hret _ _ _ _ _ rfl rfl hP hD hS dX3_isRank_15
def f_X3_isPlayer (N : Nat) (x0 : Int32) : Option (Int32) :=
    Option.bind (α := (Int32) ⊕ (Unit)) (if x0 = 0 then (some (.inr ())) else (if x0 = 1 then (some (.inr ())) else (some (.inl 0)))) (fun q2 => sm q2 some (fun t3 => some 1))
set_option maxHeartbeats 4000000 in
set_option maxRecDepth 100000 in
theorem c_X3_isPlayer (l : Launch) (D : va_G) (cI cC cH : ClassId) (N : Nat) (x0 : Int32) (y : Int32) (h : f_X3_isPlayer N x0 = some y) : CTi l yX3_isPlayer cX3_isPlayer 1 (some .boolean) 0 0 D (tyL cI cC cH) [.int x0] [] [] y := by
  unfold f_X3_isPlayer at h
  refine ctZ (by decide) (Nat.le_of_ble_eq_true rfl) ?_
  intro p e s m args below meth c A Q ls F hret hP hD hS hl
  have hx := F.1
  have hb := F.2.1
  have hown : s.vm.findClass RX3 = some m.cls := F.2.2.2.1
  have hts := F.2.2.2.2.1
  have hN := F.2.2.2.2.2.1
  have hK := F.2.2.2.2.2.2.1
  have hl : lv_has ls 1 [(0, .int x0)] := hl
  refine lv_iload_n hx hb dX3_isPlayer_0 rfl (lv_at hl 0 rfl) ?_
  obtain ⟨q2, hb7, h⟩ := bd h
  have J4 : ∀ t3, q2 = .inr t3 → ∀ (ls : Array Slot) (H : Heap) (locs : List Loc), lv_has ls 1 [] → va_P D vwCl [] H → va_D A [] → va_S A s.heap H locs → W p l e (rmm 0 0) s m args below meth c H locs 0 0 Q (F0 m 9 ls []) := by
    intro t3 e9 ls H locs hl hP hD hS
    rw [e9] at h
    have h := sm_r h
    refine lv_iconst (v := 1) hx hb dX3_isPlayer_9 (by decide) ?_
    refine lv_goto (tgt := 14) hx hb dX3_isPlayer_10 (by decide) ?_
    obtain rfl := Option.some.inj h
    exact hret _ _ _ _ _ rfl rfl hP hD hS dX3_isPlayer_14
  have hr5 : ∀ r9, q2 = .inl r9 → r9 = y := by
    intro r9 e9
    rw [e9] at h
    exact Option.some.inj h
  clear h
  have h := hb7
  clear hb7
  refine lv_if_eq (tgt := 9) hx hb dX3_isPlayer_1 (by decide) (fun c1 => ?_) (fun c1 => ?_)
  · have h := itT h c1
    obtain rfl := Option.some.inj h
    exact J4 _ rfl _ _ _ (lv_sub hl [] rfl) hP hD hS
  · have h := itF h c1
    refine lv_iload_n hx hb dX3_isPlayer_4 rfl (lv_at hl 0 rfl) ?_
    refine lv_iconst (v := 1) hx hb dX3_isPlayer_5 (by decide) ?_
    refine lv_icmp_ne (tgt := 13) hx hb dX3_isPlayer_6 (by decide) (fun c6 => ?_) (fun c6 => ?_)
    · have h := itF h c6
      refine lv_iconst (v := 0) hx hb dX3_isPlayer_13 (by decide) ?_
      obtain rfl := Option.some.inj h
      obtain rfl := hr5 _ rfl
      exact hret _ _ _ _ _ rfl rfl hP hD hS dX3_isPlayer_14
    · have h := itT h c6
      obtain rfl := Option.some.inj h
      exact J4 _ rfl _ _ _ (lv_sub hl [] rfl) hP hD hS
def f_X0_has (N : Nat) (x1 : Int32) (zsize : Int32) : Option (Int32) :=
    if x1 < 0 then (some 0) else (if zsize ≤ x1 then (some 0) else (if 12 ≤ x1 then (some 0) else (some 1)))
set_option maxHeartbeats 4000000 in
set_option maxRecDepth 100000 in
theorem c_X0_has (l : Launch) (D : va_G) (cI cC cH : ClassId) (a0 : Nat) (a_owners : Nat) (a_ranks : Nat) (a_ways : Nat) (N : Nat) (x1 : Int32) (zsize : Int32) (y : Int32) (h : f_X0_has N x1 zsize = some y) : CTi l yX0_has cX0_has 2 (some .boolean) 0 0 D (tyL cI cC cH) [.ref a0, .int x1] [(a0, .inr (0, [.ref a_owners, .ref a_ranks, .ref a_ways, .int zsize]))] [(a0, .inr (0, [.ref a_owners, .ref a_ranks, .ref a_ways, .int zsize]))] y := by
  unfold f_X0_has at h
  refine ctZ (by decide) (Nat.le_of_ble_eq_true rfl) ?_
  intro p e s m args below meth c A Q ls F hret hP hD hS hl
  have hx := F.1
  have hb := F.2.1
  have hown : s.vm.findClass RX0 = some m.cls := F.2.2.2.1
  have hts := F.2.2.2.2.1
  have hN := F.2.2.2.2.2.1
  have hK := F.2.2.2.2.2.2.1
  have hl : lv_has ls 2 [(0, .ref a0), (1, .int x1)] := hl
  refine lv_iload_n hx hb dX0_has_0 rfl (lv_at hl 1 rfl) ?_
  refine lv_if_lt (tgt := 22) hx hb dX0_has_1 (by decide) (fun c1 => ?_) (fun c1 => ?_)
  · have h := itT h c1
    refine lv_iconst (v := 0) hx hb dX0_has_22 (by decide) ?_
    obtain rfl := Option.some.inj h
    exact hret _ _ _ _ _ rfl rfl hP hD hS dX0_has_23
  · have h := itF h c1
    refine lv_iload_n hx hb dX0_has_4 rfl (lv_at hl 1 rfl) ?_
    refine lv_aload_n hx hb dX0_has_5 rfl (lv_at hl 0 rfl) ?_
    refine va_get (D := D) (ci := 0) (v := .int zsize) (C := RX0) (T := TX0) (N := 4) hx hb hts inG0 hown hK hP 0 rfl rfl 3 (by decide) (hts _ wd1_30) (fun _ h9 => h9) rfl dX0_has_6 ?_
    refine lv_icmp_ge (tgt := 22) hx hb dX0_has_9 (by decide) (fun c2 => ?_) (fun c2 => ?_)
    · have h := itT h c2
      refine lv_iconst (v := 0) hx hb dX0_has_22 (by decide) ?_
      obtain rfl := Option.some.inj h
      exact hret _ _ _ _ _ rfl rfl hP hD hS dX0_has_23
    · have h := itF h c2
      refine lv_iload_n hx hb dX0_has_12 rfl (lv_at hl 1 rfl) ?_
      refine lv_bipush (v := 12) hx hb dX0_has_13 (by decide) ?_
      refine lv_icmp_ge (tgt := 22) hx hb dX0_has_15 (by decide) (fun c3 => ?_) (fun c3 => ?_)
      · have h := itT h c3
        refine lv_iconst (v := 0) hx hb dX0_has_22 (by decide) ?_
        obtain rfl := Option.some.inj h
        exact hret _ _ _ _ _ rfl rfl hP hD hS dX0_has_23
      · have h := itF h c3
        refine lv_iconst (v := 1) hx hb dX0_has_18 (by decide) ?_
        refine lv_goto (tgt := 23) hx hb dX0_has_19 (by decide) ?_
        obtain rfl := Option.some.inj h
        exact hret _ _ _ _ _ rfl rfl hP hD hS dX0_has_23
def f_X0_all (N : Nat) (zsize : Int32) : Option (Int32) :=
    some (((1 : Int32) <<< (zsize &&& 31)) - 1)
set_option maxHeartbeats 4000000 in
set_option maxRecDepth 100000 in
theorem c_X0_all (l : Launch) (D : va_G) (cI cC cH : ClassId) (a0 : Nat) (a_owners : Nat) (a_ranks : Nat) (a_ways : Nat) (N : Nat) (zsize : Int32) (y : Int32) (h : f_X0_all N zsize = some y) : CTi l yX0_all cX0_all 1 (some .int) 0 0 D (tyL cI cC cH) [.ref a0] [(a0, .inr (0, [.ref a_owners, .ref a_ranks, .ref a_ways, .int zsize]))] [(a0, .inr (0, [.ref a_owners, .ref a_ranks, .ref a_ways, .int zsize]))] y := by
  unfold f_X0_all at h
  refine ctI (by decide) (Nat.le_of_ble_eq_true rfl) ?_
  intro p e s m args below meth c A Q ls F hret hP hD hS hl
  have hx := F.1
  have hb := F.2.1
  have hown : s.vm.findClass RX0 = some m.cls := F.2.2.2.1
  have hts := F.2.2.2.2.1
  have hN := F.2.2.2.2.2.1
  have hK := F.2.2.2.2.2.2.1
  have hl : lv_has ls 1 [(0, .ref a0)] := hl
  refine lv_iconst (v := 1) hx hb dX0_all_0 (by decide) ?_
  refine lv_aload_n hx hb dX0_all_1 rfl (lv_at hl 0 rfl) ?_
  refine va_get (D := D) (ci := 0) (v := .int zsize) (C := RX0) (T := TX0) (N := 4) hx hb hts inG0 hown hK hP 0 rfl rfl 3 (by decide) (hts _ wd1_30) (fun _ h9 => h9) rfl dX0_all_2 ?_
  refine lv_ishl hx hb dX0_all_5 ?_
  refine lv_iconst (v := 1) hx hb dX0_all_6 (by decide) ?_
  refine lv_isub hx hb dX0_all_7 ?_
  obtain rfl := Option.some.inj h
  exact hret _ _ _ _ _ rfl hP hD hS dX0_all_8
def f_X0_waysTo_L4 (N : Nat) (x1_4 : Int32) (zways_4 : Nat → Int32) (zsize_4 : Int32) : Nat → Int32 → Int32 → Option (Int32)
  | 0, _, _ => none
  | n_4 + 1, x2_4, x3_4 =>
    if zsize_4 ≤ x3_4 then (some x2_4) else (chk (gi x3_4 12) (Option.bind (f_X3_contains N (zways_4 (Int32.toNatClampNeg x3_4)) x1_4) (fun q3 => Option.bind (α := Int32) (if q3 = 0 then (some (x2_4)) else (some (x2_4 ||| ((1 : Int32) <<< (x3_4 &&& 31))))) (fun q6 => f_X0_waysTo_L4 N x1_4 zways_4 zsize_4 n_4 q6 (x3_4 + 1)))))
def f_X0_waysTo (N : Nat) (x1 : Int32) (zways : Nat → Int32) (zsize : Int32) : Option (Int32) :=
    Option.bind (f_X0_waysTo_L4 N x1 zways zsize N 0 0) (fun q11 => some q11)
set_option maxHeartbeats 4000000 in
set_option maxRecDepth 100000 in
theorem c_X0_waysTo (l : Launch) (D : va_G) (cI cC cH : ClassId) (a0 : Nat) (a_owners : Nat) (a_ranks : Nat) (a_ways : Nat) (N : Nat) (x1 : Int32) (zways : Nat → Int32) (zsize : Int32) (y : Int32) (h : f_X0_waysTo N x1 zways zsize = some y) : CTi l yX0_waysTo cX0_waysTo 4 (some .int) 1 21 D (tyL cI cC cH) [.ref a0, .int x1] [(a0, .inr (0, [.ref a_owners, .ref a_ranks, .ref a_ways, .int zsize])), (a_ways, .inl (cI, 12, .inl zways))] [(a0, .inr (0, [.ref a_owners, .ref a_ranks, .ref a_ways, .int zsize])), (a_ways, .inl (cI, 12, .inl zways))] y := by
  unfold f_X0_waysTo at h
  refine ctI (by decide) (Nat.le_of_ble_eq_true rfl) ?_
  intro p e s m args below meth c A Q ls F hret hP hD hS hl
  have hx := F.1
  have hb := F.2.1
  have hown : s.vm.findClass RX0 = some m.cls := F.2.2.2.1
  have hts := F.2.2.2.2.1
  have hN := F.2.2.2.2.2.1
  have hK := F.2.2.2.2.2.2.1
  have hl : lv_has ls 4 [(0, .ref a0), (1, .int x1)] := hl
  refine lv_iconst (v := 0) hx hb dX0_waysTo_0 (by decide) ?_
  refine lv_istore_n (lv' := [(2, .int 0), (0, .ref a0), (1, .int x1)]) hx hb dX0_waysTo_1 rfl hl (by decide) rfl (fun ls hl => ?_)
  refine lv_iconst (v := 0) hx hb dX0_waysTo_2 (by decide) ?_
  refine lv_istore_n (lv' := [(3, .int 0), (2, .int 0), (0, .ref a0), (1, .int x1)]) hx hb dX0_waysTo_3 rfl hl (by decide) rfl (fun ls hl => ?_)
  have L_4 : ∀ (x1_4 : Int32) (zways_4 : Nat → Int32) (zsize_4 : Int32), ∀ (n_4 : Nat) (x2_4 : Int32) (x3_4 : Int32) (q10 : (Int32)), f_X0_waysTo_L4 N x1_4 zways_4 zsize_4 n_4 x2_4 x3_4 = some q10 → (∀ (ls : Array Slot) (H : Heap) (locs : List Loc), lv_has ls 4 [(2, .int q10)] → va_P D vwCl [(a0, .inr (0, [.ref a_owners, .ref a_ranks, .ref a_ways, .int zsize_4])), (a_ways, .inl (cI, 12, .inl zways_4))] H → va_D A [(a0, .inr (0, [.ref a_owners, .ref a_ranks, .ref a_ways, .int zsize_4])), (a_ways, .inl (cI, 12, .inl zways_4))] → va_S A s.heap H locs → W p l e (rmm 1 21) s m args below meth c H locs 0 0 Q (F0 m 37 ls [])) → ∀ (ls : Array Slot) (H : Heap) (locs : List Loc), lv_has ls 4 [(0, .ref a0), (1, .int x1_4), (2, .int x2_4), (3, .int x3_4)] → va_P D vwCl [(a0, .inr (0, [.ref a_owners, .ref a_ranks, .ref a_ways, .int zsize_4])), (a_ways, .inl (cI, 12, .inl zways_4))] H → va_D A [(a0, .inr (0, [.ref a_owners, .ref a_ranks, .ref a_ways, .int zsize_4])), (a_ways, .inl (cI, 12, .inl zways_4))] → va_S A s.heap H locs → W p l e (rmm 1 21) s m args below meth c H locs 0 0 Q (F0 m 4 ls []) := by
    intro x1_4 zways_4 zsize_4 n_4
    induction n_4 with
    | zero => intro x2_4 x3_4 q10 h; exact no_s h
    | succ n_4 ih_4 =>
      intro x2_4 x3_4 q10 h J_4 ls H locs hl hP hD hS
      rw [f_X0_waysTo_L4] at h
      refine lv_iload_n hx hb dX0_waysTo_4 rfl (lv_at hl 3 rfl) ?_
      refine lv_aload_n hx hb dX0_waysTo_5 rfl (lv_at hl 0 rfl) ?_
      refine va_get (D := D) (ci := 0) (v := .int zsize_4) (C := RX0) (T := TX0) (N := 4) hx hb hts inG0 hown hK hP 0 rfl rfl 3 (by decide) (hts _ wd1_30) (fun _ h9 => h9) rfl dX0_waysTo_6 ?_
      refine lv_icmp_ge (tgt := 37) hx hb dX0_waysTo_9 (by decide) (fun c1 => ?_) (fun c1 => ?_)
      · have h := itT h c1
        obtain rfl := Option.some.inj h
        exact J_4 _ _ _ (lv_sub hl [2] rfl) hP hD hS
      · have h := itF h c1
        refine lv_aload_n hx hb dX0_waysTo_12 rfl (lv_at hl 0 rfl) ?_
        refine va_get (D := D) (ci := 0) (v := .ref a_ways) (C := RX0) (T := TX0) (N := 4) hx hb hts inG0 hown hK hP 0 rfl rfl 2 (by decide) (hts _ wd1_26) (fun _ h9 => h9) rfl dX0_waysTo_13 ?_
        refine lv_iload_n hx hb dX0_waysTo_16 rfl (lv_at hl 3 rfl) ?_
        obtain ⟨g2, h⟩ := chk_s h
        refine va_iald hx hb hK hP 1 0 rfl rfl (gi_in g2) dX0_waysTo_17 ?_
        refine lv_iload_n hx hb dX0_waysTo_18 rfl (lv_at hl 1 rfl) ?_
        obtain ⟨q3, hq4, h⟩ := bd h
        refine knI (As := [.int (zways_4 (Int32.toNatClampNeg x3_4)), .int x1_4]) F (c_X3_contains l D cI cC cH  N (zways_4 (Int32.toNatClampNeg x3_4)) x1_4 q3 hq4) yfX3_contains wd1_133 hN.1 hP hD hS ⟨Nat.le_of_ble_eq_true rfl, Nat.le_of_ble_eq_true rfl, Nat.zero_le _, Nat.zero_le _⟩ rfl hl rfl (Nat.le_of_ble_eq_true rfl) dX0_waysTo_19 (fun H locs hP hD hS => ?_)
        obtain ⟨q6, hb9, h⟩ := bd h
        have J7 : ∀ (ls : Array Slot) (H : Heap) (locs : List Loc), lv_has ls 4 [(0, .ref a0), (1, .int x1_4), (2, .int q6), (3, .int x3_4)] → va_P D vwCl [(a0, .inr (0, [.ref a_owners, .ref a_ranks, .ref a_ways, .int zsize_4])), (a_ways, .inl (cI, 12, .inl zways_4))] H → va_D A [(a0, .inr (0, [.ref a_owners, .ref a_ranks, .ref a_ways, .int zsize_4])), (a_ways, .inl (cI, 12, .inl zways_4))] → va_S A s.heap H locs → W p l e (rmm 1 21) s m args below meth c H locs 0 0 Q (F0 m 31 ls []) := by
          intro ls H locs hl hP hD hS
          refine lv_iinc (v := x3_4 + 1) (lv' := [(3, .int (x3_4 + 1)), (0, .ref a0), (1, .int x1_4), (2, .int q6)]) hx hb dX0_waysTo_31 hl (k := 3) rfl rfl (by decide) rfl (fun ls hl => ?_)
          refine lv_goto (tgt := 4) hx hb dX0_waysTo_34 (by decide) ?_
          exact ih_4 q6 (x3_4 + 1) _ h J_4 _ _ _ (lv_sub hl [1, 2, 3, 0] rfl) hP hD hS
        clear h
        have h := hb9
        clear hb9
        refine lv_if_eq (tgt := 31) hx hb dX0_waysTo_22 (by decide) (fun c5 => ?_) (fun c5 => ?_)
        · have h := itT h c5
          obtain rfl := Option.some.inj h
          exact J7 _ _ _ (lv_sub hl [0, 1, 2, 3] rfl) hP hD hS
        · have h := itF h c5
          refine lv_iload_n hx hb dX0_waysTo_25 rfl (lv_at hl 2 rfl) ?_
          refine lv_iconst (v := 1) hx hb dX0_waysTo_26 (by decide) ?_
          refine lv_iload_n hx hb dX0_waysTo_27 rfl (lv_at hl 3 rfl) ?_
          refine lv_ishl hx hb dX0_waysTo_28 ?_
          refine lv_ior hx hb dX0_waysTo_29 ?_
          refine lv_istore_n (lv' := [(2, .int (x2_4 ||| ((1 : Int32) <<< (x3_4 &&& 31)))), (0, .ref a0), (1, .int x1_4), (3, .int x3_4)]) hx hb dX0_waysTo_30 rfl hl (by decide) rfl (fun ls hl => ?_)
          obtain rfl := Option.some.inj h
          exact J7 _ _ _ (lv_sub hl [1, 2, 0, 3] rfl) hP hD hS
  obtain ⟨q11, hb12, h⟩ := bd h
  refine L_4 x1 zways zsize N 0 0 q11 hb12 ?_ _ _ _ (lv_sub hl [2, 3, 1, 0] rfl) hP hD hS
  intro ls H locs hl hP hD hS
  refine lv_iload_n hx hb dX0_waysTo_37 rfl (lv_at hl 0 rfl) ?_
  obtain rfl := Option.some.inj h
  exact hret _ _ _ _ _ rfl hP hD hS dX0_waysTo_38
def f_X0_numberOfWays_L4 (N : Nat) (zways_4 : Nat → Int32) (zsize_4 : Int32) : Nat → Int32 → Int32 → Option (Int32)
  | 0, _, _ => none
  | n_4 + 1, x1_4, x2_4 =>
    if zsize_4 ≤ x2_4 then (some x1_4) else (chk (gi x2_4 12) (Option.bind (f_J6_bitCount_0f7a4 N (zways_4 (Int32.toNatClampNeg x2_4))) (fun q3 => f_X0_numberOfWays_L4 N zways_4 zsize_4 n_4 (x1_4 + q3) (x2_4 + 1))))
def f_X0_numberOfWays (N : Nat) (zways : Nat → Int32) (zsize : Int32) : Option (Int32) :=
    Option.bind (f_X0_numberOfWays_L4 N zways zsize N 0 0) (fun q6 => some q6)
set_option maxHeartbeats 4000000 in
set_option maxRecDepth 100000 in
theorem c_X0_numberOfWays (l : Launch) (D : va_G) (cI cC cH : ClassId) (a0 : Nat) (a_owners : Nat) (a_ranks : Nat) (a_ways : Nat) (N : Nat) (zways : Nat → Int32) (zsize : Int32) (y : Int32) (h : f_X0_numberOfWays N zways zsize = some y) : CTi l yX0_numberOfWays cX0_numberOfWays 3 (some .int) 1 20 D (tyL cI cC cH) [.ref a0] [(a0, .inr (0, [.ref a_owners, .ref a_ranks, .ref a_ways, .int zsize])), (a_ways, .inl (cI, 12, .inl zways))] [(a0, .inr (0, [.ref a_owners, .ref a_ranks, .ref a_ways, .int zsize])), (a_ways, .inl (cI, 12, .inl zways))] y := by
  unfold f_X0_numberOfWays at h
  refine ctI (by decide) (Nat.le_of_ble_eq_true rfl) ?_
  intro p e s m args below meth c A Q ls F hret hP hD hS hl
  have hx := F.1
  have hb := F.2.1
  have hown : s.vm.findClass RX0 = some m.cls := F.2.2.2.1
  have hts := F.2.2.2.2.1
  have hN := F.2.2.2.2.2.1
  have hK := F.2.2.2.2.2.2.1
  have hl : lv_has ls 3 [(0, .ref a0)] := hl
  refine lv_iconst (v := 0) hx hb dX0_numberOfWays_0 (by decide) ?_
  refine lv_istore_n (lv' := [(1, .int 0), (0, .ref a0)]) hx hb dX0_numberOfWays_1 rfl hl (by decide) rfl (fun ls hl => ?_)
  refine lv_iconst (v := 0) hx hb dX0_numberOfWays_2 (by decide) ?_
  refine lv_istore_n (lv' := [(2, .int 0), (1, .int 0), (0, .ref a0)]) hx hb dX0_numberOfWays_3 rfl hl (by decide) rfl (fun ls hl => ?_)
  have L_4 : ∀ (zways_4 : Nat → Int32) (zsize_4 : Int32), ∀ (n_4 : Nat) (x1_4 : Int32) (x2_4 : Int32) (q5 : (Int32)), f_X0_numberOfWays_L4 N zways_4 zsize_4 n_4 x1_4 x2_4 = some q5 → (∀ (ls : Array Slot) (H : Heap) (locs : List Loc), lv_has ls 3 [(1, .int q5)] → va_P D vwCl [(a0, .inr (0, [.ref a_owners, .ref a_ranks, .ref a_ways, .int zsize_4])), (a_ways, .inl (cI, 12, .inl zways_4))] H → va_D A [(a0, .inr (0, [.ref a_owners, .ref a_ranks, .ref a_ways, .int zsize_4])), (a_ways, .inl (cI, 12, .inl zways_4))] → va_S A s.heap H locs → W p l e (rmm 1 20) s m args below meth c H locs 0 0 Q (F0 m 30 ls [])) → ∀ (ls : Array Slot) (H : Heap) (locs : List Loc), lv_has ls 3 [(0, .ref a0), (1, .int x1_4), (2, .int x2_4)] → va_P D vwCl [(a0, .inr (0, [.ref a_owners, .ref a_ranks, .ref a_ways, .int zsize_4])), (a_ways, .inl (cI, 12, .inl zways_4))] H → va_D A [(a0, .inr (0, [.ref a_owners, .ref a_ranks, .ref a_ways, .int zsize_4])), (a_ways, .inl (cI, 12, .inl zways_4))] → va_S A s.heap H locs → W p l e (rmm 1 20) s m args below meth c H locs 0 0 Q (F0 m 4 ls []) := by
    intro zways_4 zsize_4 n_4
    induction n_4 with
    | zero => intro x1_4 x2_4 q5 h; exact no_s h
    | succ n_4 ih_4 =>
      intro x1_4 x2_4 q5 h J_4 ls H locs hl hP hD hS
      rw [f_X0_numberOfWays_L4] at h
      refine lv_iload_n hx hb dX0_numberOfWays_4 rfl (lv_at hl 2 rfl) ?_
      refine lv_aload_n hx hb dX0_numberOfWays_5 rfl (lv_at hl 0 rfl) ?_
      refine va_get (D := D) (ci := 0) (v := .int zsize_4) (C := RX0) (T := TX0) (N := 4) hx hb hts inG0 hown hK hP 0 rfl rfl 3 (by decide) (hts _ wd1_30) (fun _ h9 => h9) rfl dX0_numberOfWays_6 ?_
      refine lv_icmp_ge (tgt := 30) hx hb dX0_numberOfWays_9 (by decide) (fun c1 => ?_) (fun c1 => ?_)
      · have h := itT h c1
        obtain rfl := Option.some.inj h
        exact J_4 _ _ _ (lv_sub hl [1] rfl) hP hD hS
      · have h := itF h c1
        refine lv_iload_n hx hb dX0_numberOfWays_12 rfl (lv_at hl 1 rfl) ?_
        refine lv_aload_n hx hb dX0_numberOfWays_13 rfl (lv_at hl 0 rfl) ?_
        refine va_get (D := D) (ci := 0) (v := .ref a_ways) (C := RX0) (T := TX0) (N := 4) hx hb hts inG0 hown hK hP 0 rfl rfl 2 (by decide) (hts _ wd1_26) (fun _ h9 => h9) rfl dX0_numberOfWays_14 ?_
        refine lv_iload_n hx hb dX0_numberOfWays_17 rfl (lv_at hl 2 rfl) ?_
        obtain ⟨g2, h⟩ := chk_s h
        refine va_iald hx hb hK hP 1 0 rfl rfl (gi_in g2) dX0_numberOfWays_18 ?_
        obtain ⟨q3, hq4, h⟩ := bd h
        refine ks0 (As := [.int (zways_4 (Int32.toNatClampNeg x2_4))]) F (c_J6_bitCount_0f7a4 l D cI cC cH  N (zways_4 (Int32.toNatClampNeg x2_4)) q3 hq4) yfJ6_bitCount_0f7a4 ⟨wd1_197, wd1_198⟩ hP hD hS ⟨Nat.le_of_ble_eq_true rfl, Nat.le_of_ble_eq_true rfl, Nat.zero_le _, Nat.zero_le _⟩ rfl hl rfl (Nat.le_of_ble_eq_true rfl) dX0_numberOfWays_19 (fun H locs hP hD hS => ?_)
        refine lv_iadd hx hb dX0_numberOfWays_22 ?_
        refine lv_istore_n (lv' := [(1, .int (x1_4 + q3)), (0, .ref a0), (2, .int x2_4)]) hx hb dX0_numberOfWays_23 rfl hl (by decide) rfl (fun ls hl => ?_)
        refine lv_iinc (v := x2_4 + 1) (lv' := [(2, .int (x2_4 + 1)), (1, .int (x1_4 + q3)), (0, .ref a0)]) hx hb dX0_numberOfWays_24 hl (k := 2) rfl rfl (by decide) rfl (fun ls hl => ?_)
        refine lv_goto (tgt := 4) hx hb dX0_numberOfWays_27 (by decide) ?_
        exact ih_4 (x1_4 + q3) (x2_4 + 1) _ h J_4 _ _ _ (lv_sub hl [2, 1, 0] rfl) hP hD hS
  obtain ⟨q6, hb7, h⟩ := bd h
  refine L_4 zways zsize N 0 0 q6 hb7 ?_ _ _ _ (lv_sub hl [2, 1, 0] rfl) hP hD hS
  intro ls H locs hl hP hD hS
  refine lv_iload_n hx hb dX0_numberOfWays_30 rfl (lv_at hl 0 rfl) ?_
  obtain rfl := Option.some.inj h
  exact hret _ _ _ _ _ rfl hP hD hS dX0_numberOfWays_31
def f_X0_greatestRank_L4 (N : Nat) (zranks_4 : Nat → Int32) (zsize_4 : Int32) : Nat → Int32 → Int32 → Option (Int32)
  | 0, _, _ => none
  | n_4 + 1, x1_4, x2_4 =>
    if zsize_4 ≤ x2_4 then (some x1_4) else (chk (gi x2_4 12) (f_X0_greatestRank_L4 N zranks_4 zsize_4 n_4 (if x1_4 < (zranks_4 (Int32.toNatClampNeg x2_4)) then (zranks_4 (Int32.toNatClampNeg x2_4)) else x1_4) (x2_4 + 1)))
def f_X0_greatestRank (N : Nat) (zranks : Nat → Int32) (zsize : Int32) : Option (Int32) :=
    Option.bind (f_X0_greatestRank_L4 N zranks zsize N 0 0) (fun q4 => some q4)
set_option maxHeartbeats 4000000 in
set_option maxRecDepth 100000 in
theorem c_X0_greatestRank (l : Launch) (D : va_G) (cI cC cH : ClassId) (a0 : Nat) (a_owners : Nat) (a_ranks : Nat) (a_ways : Nat) (N : Nat) (zranks : Nat → Int32) (zsize : Int32) (y : Int32) (h : f_X0_greatestRank N zranks zsize = some y) : CTi l yX0_greatestRank cX0_greatestRank 3 (some .int) 1 21 D (tyL cI cC cH) [.ref a0] [(a0, .inr (0, [.ref a_owners, .ref a_ranks, .ref a_ways, .int zsize])), (a_ranks, .inl (cI, 12, .inl zranks))] [(a0, .inr (0, [.ref a_owners, .ref a_ranks, .ref a_ways, .int zsize])), (a_ranks, .inl (cI, 12, .inl zranks))] y := by
  unfold f_X0_greatestRank at h
  refine ctI (by decide) (Nat.le_of_ble_eq_true rfl) ?_
  intro p e s m args below meth c A Q ls F hret hP hD hS hl
  have hx := F.1
  have hb := F.2.1
  have hown : s.vm.findClass RX0 = some m.cls := F.2.2.2.1
  have hts := F.2.2.2.2.1
  have hN := F.2.2.2.2.2.1
  have hK := F.2.2.2.2.2.2.1
  have hl : lv_has ls 3 [(0, .ref a0)] := hl
  refine lv_iconst (v := 0) hx hb dX0_greatestRank_0 (by decide) ?_
  refine lv_istore_n (lv' := [(1, .int 0), (0, .ref a0)]) hx hb dX0_greatestRank_1 rfl hl (by decide) rfl (fun ls hl => ?_)
  refine lv_iconst (v := 0) hx hb dX0_greatestRank_2 (by decide) ?_
  refine lv_istore_n (lv' := [(2, .int 0), (1, .int 0), (0, .ref a0)]) hx hb dX0_greatestRank_3 rfl hl (by decide) rfl (fun ls hl => ?_)
  have L_4 : ∀ (zranks_4 : Nat → Int32) (zsize_4 : Int32), ∀ (n_4 : Nat) (x1_4 : Int32) (x2_4 : Int32) (q3 : (Int32)), f_X0_greatestRank_L4 N zranks_4 zsize_4 n_4 x1_4 x2_4 = some q3 → (∀ (ls : Array Slot) (H : Heap) (locs : List Loc), lv_has ls 3 [(1, .int q3)] → va_P D vwCl [(a0, .inr (0, [.ref a_owners, .ref a_ranks, .ref a_ways, .int zsize_4])), (a_ranks, .inl (cI, 12, .inl zranks_4))] H → va_D A [(a0, .inr (0, [.ref a_owners, .ref a_ranks, .ref a_ways, .int zsize_4])), (a_ranks, .inl (cI, 12, .inl zranks_4))] → va_S A s.heap H locs → W p l e (rmm 1 21) s m args below meth c H locs 0 0 Q (F0 m 29 ls [])) → ∀ (ls : Array Slot) (H : Heap) (locs : List Loc), lv_has ls 3 [(0, .ref a0), (1, .int x1_4), (2, .int x2_4)] → va_P D vwCl [(a0, .inr (0, [.ref a_owners, .ref a_ranks, .ref a_ways, .int zsize_4])), (a_ranks, .inl (cI, 12, .inl zranks_4))] H → va_D A [(a0, .inr (0, [.ref a_owners, .ref a_ranks, .ref a_ways, .int zsize_4])), (a_ranks, .inl (cI, 12, .inl zranks_4))] → va_S A s.heap H locs → W p l e (rmm 1 21) s m args below meth c H locs 0 0 Q (F0 m 4 ls []) := by
    intro zranks_4 zsize_4 n_4
    induction n_4 with
    | zero => intro x1_4 x2_4 q3 h; exact no_s h
    | succ n_4 ih_4 =>
      intro x1_4 x2_4 q3 h J_4 ls H locs hl hP hD hS
      rw [f_X0_greatestRank_L4] at h
      refine lv_iload_n hx hb dX0_greatestRank_4 rfl (lv_at hl 2 rfl) ?_
      refine lv_aload_n hx hb dX0_greatestRank_5 rfl (lv_at hl 0 rfl) ?_
      refine va_get (D := D) (ci := 0) (v := .int zsize_4) (C := RX0) (T := TX0) (N := 4) hx hb hts inG0 hown hK hP 0 rfl rfl 3 (by decide) (hts _ wd1_30) (fun _ h9 => h9) rfl dX0_greatestRank_6 ?_
      refine lv_icmp_ge (tgt := 29) hx hb dX0_greatestRank_9 (by decide) (fun c1 => ?_) (fun c1 => ?_)
      · have h := itT h c1
        obtain rfl := Option.some.inj h
        exact J_4 _ _ _ (lv_sub hl [1] rfl) hP hD hS
      · have h := itF h c1
        refine lv_iload_n hx hb dX0_greatestRank_12 rfl (lv_at hl 1 rfl) ?_
        refine lv_aload_n hx hb dX0_greatestRank_13 rfl (lv_at hl 0 rfl) ?_
        refine va_get (D := D) (ci := 0) (v := .ref a_ranks) (C := RX0) (T := TX0) (N := 4) hx hb hts inG0 hown hK hP 0 rfl rfl 1 (by decide) (hts _ wd1_24) (fun _ h9 => h9) rfl dX0_greatestRank_14 ?_
        refine lv_iload_n hx hb dX0_greatestRank_17 rfl (lv_at hl 2 rfl) ?_
        obtain ⟨g2, h⟩ := chk_s h
        refine va_iald hx hb hK hP 1 0 rfl rfl (gi_in g2) dX0_greatestRank_18 ?_
        refine va_mmax hx hb (F.2.2.1.trans hl.1.symm) hown (hts _ wd1_208) (hts _ wd1_209) (hts _ wd1_6) (hts _ wdmax) (Nat.le_of_ble_eq_true rfl) (Nat.le_of_ble_eq_true rfl) (Nat.zero_le _) (Nat.zero_le _) dX0_greatestRank_19 ?_
        refine lv_istore_n (lv' := [(1, .int (if x1_4 < (zranks_4 (Int32.toNatClampNeg x2_4)) then (zranks_4 (Int32.toNatClampNeg x2_4)) else x1_4)), (0, .ref a0), (2, .int x2_4)]) hx hb dX0_greatestRank_22 rfl hl (by decide) rfl (fun ls hl => ?_)
        refine lv_iinc (v := x2_4 + 1) (lv' := [(2, .int (x2_4 + 1)), (1, .int (if x1_4 < (zranks_4 (Int32.toNatClampNeg x2_4)) then (zranks_4 (Int32.toNatClampNeg x2_4)) else x1_4)), (0, .ref a0)]) hx hb dX0_greatestRank_23 hl (k := 2) rfl rfl (by decide) rfl (fun ls hl => ?_)
        refine lv_goto (tgt := 4) hx hb dX0_greatestRank_26 (by decide) ?_
        exact ih_4 (if x1_4 < (zranks_4 (Int32.toNatClampNeg x2_4)) then (zranks_4 (Int32.toNatClampNeg x2_4)) else x1_4) (x2_4 + 1) _ h J_4 _ _ _ (lv_sub hl [2, 1, 0] rfl) hP hD hS
  obtain ⟨q4, hb5, h⟩ := bd h
  refine L_4 zranks zsize N 0 0 q4 hb5 ?_ _ _ _ (lv_sub hl [2, 1, 0] rfl) hP hD hS
  intro ls H locs hl hP hD hS
  refine lv_iload_n hx hb dX0_greatestRank_29 rfl (lv_at hl 0 rfl) ?_
  obtain rfl := Option.some.inj h
  exact hret _ _ _ _ _ rfl hP hD hS dX0_greatestRank_30
def f_X0_endsOf_L4 (N : Nat) (x1_4 : Int32) (zowners_4 : Nat → Int32) (zways_4 : Nat → Int32) (zsize_4 : Int32) : Nat → Int32 → Int32 → Option (Int32)
  | 0, _, _ => none
  | n_4 + 1, x2_4, x3_4 =>
    if zsize_4 ≤ x3_4 then (some x2_4) else (chk (gi x3_4 12) (Option.bind (α := Int32) (if (zways_4 (Int32.toNatClampNeg x3_4)) = 0 then (chk (gi x3_4 12) (if (zowners_4 (Int32.toNatClampNeg x3_4)) = x1_4 then (some (x2_4 ||| ((1 : Int32) <<< (x3_4 &&& 31)))) else (some (x2_4)))) else (some (x2_4))) (fun q4 => f_X0_endsOf_L4 N x1_4 zowners_4 zways_4 zsize_4 n_4 q4 (x3_4 + 1))))
def f_X0_endsOf (N : Nat) (x1 : Int32) (zowners : Nat → Int32) (zways : Nat → Int32) (zsize : Int32) : Option (Int32) :=
    Option.bind (f_X0_endsOf_L4 N x1 zowners zways zsize N 0 0) (fun q11 => some q11)
set_option maxHeartbeats 4000000 in
set_option maxRecDepth 100000 in
theorem c_X0_endsOf (l : Launch) (D : va_G) (cI cC cH : ClassId) (a0 : Nat) (a_owners : Nat) (a_ranks : Nat) (a_ways : Nat) (N : Nat) (x1 : Int32) (zowners : Nat → Int32) (zways : Nat → Int32) (zsize : Int32) (y : Int32) (h : f_X0_endsOf N x1 zowners zways zsize = some y) : CTi l yX0_endsOf cX0_endsOf 4 (some .int) 0 0 D (tyL cI cC cH) [.ref a0, .int x1] [(a0, .inr (0, [.ref a_owners, .ref a_ranks, .ref a_ways, .int zsize])), (a_owners, .inl (cI, 12, .inl zowners)), (a_ways, .inl (cI, 12, .inl zways))] [(a0, .inr (0, [.ref a_owners, .ref a_ranks, .ref a_ways, .int zsize])), (a_owners, .inl (cI, 12, .inl zowners)), (a_ways, .inl (cI, 12, .inl zways))] y := by
  unfold f_X0_endsOf at h
  refine ctI (by decide) (Nat.le_of_ble_eq_true rfl) ?_
  intro p e s m args below meth c A Q ls F hret hP hD hS hl
  have hx := F.1
  have hb := F.2.1
  have hown : s.vm.findClass RX0 = some m.cls := F.2.2.2.1
  have hts := F.2.2.2.2.1
  have hN := F.2.2.2.2.2.1
  have hK := F.2.2.2.2.2.2.1
  have hl : lv_has ls 4 [(0, .ref a0), (1, .int x1)] := hl
  refine lv_iconst (v := 0) hx hb dX0_endsOf_0 (by decide) ?_
  refine lv_istore_n (lv' := [(2, .int 0), (0, .ref a0), (1, .int x1)]) hx hb dX0_endsOf_1 rfl hl (by decide) rfl (fun ls hl => ?_)
  refine lv_iconst (v := 0) hx hb dX0_endsOf_2 (by decide) ?_
  refine lv_istore_n (lv' := [(3, .int 0), (2, .int 0), (0, .ref a0), (1, .int x1)]) hx hb dX0_endsOf_3 rfl hl (by decide) rfl (fun ls hl => ?_)
  have L_4 : ∀ (x1_4 : Int32) (zowners_4 : Nat → Int32) (zways_4 : Nat → Int32) (zsize_4 : Int32), ∀ (n_4 : Nat) (x2_4 : Int32) (x3_4 : Int32) (q10 : (Int32)), f_X0_endsOf_L4 N x1_4 zowners_4 zways_4 zsize_4 n_4 x2_4 x3_4 = some q10 → (∀ (ls : Array Slot) (H : Heap) (locs : List Loc), lv_has ls 4 [(2, .int q10)] → va_P D vwCl [(a0, .inr (0, [.ref a_owners, .ref a_ranks, .ref a_ways, .int zsize_4])), (a_owners, .inl (cI, 12, .inl zowners_4)), (a_ways, .inl (cI, 12, .inl zways_4))] H → va_D A [(a0, .inr (0, [.ref a_owners, .ref a_ranks, .ref a_ways, .int zsize_4])), (a_owners, .inl (cI, 12, .inl zowners_4)), (a_ways, .inl (cI, 12, .inl zways_4))] → va_S A s.heap H locs → W p l e (rmm 0 0) s m args below meth c H locs 0 0 Q (F0 m 43 ls [])) → ∀ (ls : Array Slot) (H : Heap) (locs : List Loc), lv_has ls 4 [(0, .ref a0), (1, .int x1_4), (2, .int x2_4), (3, .int x3_4)] → va_P D vwCl [(a0, .inr (0, [.ref a_owners, .ref a_ranks, .ref a_ways, .int zsize_4])), (a_owners, .inl (cI, 12, .inl zowners_4)), (a_ways, .inl (cI, 12, .inl zways_4))] H → va_D A [(a0, .inr (0, [.ref a_owners, .ref a_ranks, .ref a_ways, .int zsize_4])), (a_owners, .inl (cI, 12, .inl zowners_4)), (a_ways, .inl (cI, 12, .inl zways_4))] → va_S A s.heap H locs → W p l e (rmm 0 0) s m args below meth c H locs 0 0 Q (F0 m 4 ls []) := by
    intro x1_4 zowners_4 zways_4 zsize_4 n_4
    induction n_4 with
    | zero => intro x2_4 x3_4 q10 h; exact no_s h
    | succ n_4 ih_4 =>
      intro x2_4 x3_4 q10 h J_4 ls H locs hl hP hD hS
      rw [f_X0_endsOf_L4] at h
      refine lv_iload_n hx hb dX0_endsOf_4 rfl (lv_at hl 3 rfl) ?_
      refine lv_aload_n hx hb dX0_endsOf_5 rfl (lv_at hl 0 rfl) ?_
      refine va_get (D := D) (ci := 0) (v := .int zsize_4) (C := RX0) (T := TX0) (N := 4) hx hb hts inG0 hown hK hP 0 rfl rfl 3 (by decide) (hts _ wd1_30) (fun _ h9 => h9) rfl dX0_endsOf_6 ?_
      refine lv_icmp_ge (tgt := 43) hx hb dX0_endsOf_9 (by decide) (fun c1 => ?_) (fun c1 => ?_)
      · have h := itT h c1
        obtain rfl := Option.some.inj h
        exact J_4 _ _ _ (lv_sub hl [2] rfl) hP hD hS
      · have h := itF h c1
        refine lv_aload_n hx hb dX0_endsOf_12 rfl (lv_at hl 0 rfl) ?_
        refine va_get (D := D) (ci := 0) (v := .ref a_ways) (C := RX0) (T := TX0) (N := 4) hx hb hts inG0 hown hK hP 0 rfl rfl 2 (by decide) (hts _ wd1_26) (fun _ h9 => h9) rfl dX0_endsOf_13 ?_
        refine lv_iload_n hx hb dX0_endsOf_16 rfl (lv_at hl 3 rfl) ?_
        obtain ⟨g2, h⟩ := chk_s h
        refine va_iald hx hb hK hP 2 0 rfl rfl (gi_in g2) dX0_endsOf_17 ?_
        obtain ⟨q4, hb9, h⟩ := bd h
        have J5 : ∀ (ls : Array Slot) (H : Heap) (locs : List Loc), lv_has ls 4 [(0, .ref a0), (1, .int x1_4), (2, .int q4), (3, .int x3_4)] → va_P D vwCl [(a0, .inr (0, [.ref a_owners, .ref a_ranks, .ref a_ways, .int zsize_4])), (a_owners, .inl (cI, 12, .inl zowners_4)), (a_ways, .inl (cI, 12, .inl zways_4))] H → va_D A [(a0, .inr (0, [.ref a_owners, .ref a_ranks, .ref a_ways, .int zsize_4])), (a_owners, .inl (cI, 12, .inl zowners_4)), (a_ways, .inl (cI, 12, .inl zways_4))] → va_S A s.heap H locs → W p l e (rmm 0 0) s m args below meth c H locs 0 0 Q (F0 m 37 ls []) := by
          intro ls H locs hl hP hD hS
          refine lv_iinc (v := x3_4 + 1) (lv' := [(3, .int (x3_4 + 1)), (0, .ref a0), (1, .int x1_4), (2, .int q4)]) hx hb dX0_endsOf_37 hl (k := 3) rfl rfl (by decide) rfl (fun ls hl => ?_)
          refine lv_goto (tgt := 4) hx hb dX0_endsOf_40 (by decide) ?_
          exact ih_4 q4 (x3_4 + 1) _ h J_4 _ _ _ (lv_sub hl [1, 2, 3, 0] rfl) hP hD hS
        clear h
        have h := hb9
        clear hb9
        refine lv_if_ne (tgt := 37) hx hb dX0_endsOf_18 (by decide) (fun c3 => ?_) (fun c3 => ?_)
        · have h := itF h c3
          obtain rfl := Option.some.inj h
          exact J5 _ _ _ (lv_sub hl [0, 1, 2, 3] rfl) hP hD hS
        · have h := itT h c3
          refine lv_aload_n hx hb dX0_endsOf_21 rfl (lv_at hl 0 rfl) ?_
          refine va_get (D := D) (ci := 0) (v := .ref a_owners) (C := RX0) (T := TX0) (N := 4) hx hb hts inG0 hown hK hP 0 rfl rfl 0 (by decide) (hts _ wd1_21) (fun _ h9 => h9) rfl dX0_endsOf_22 ?_
          refine lv_iload_n hx hb dX0_endsOf_25 rfl (lv_at hl 3 rfl) ?_
          obtain ⟨g7, h⟩ := chk_s h
          refine va_iald hx hb hK hP 1 0 rfl rfl (gi_in g7) dX0_endsOf_26 ?_
          refine lv_iload_n hx hb dX0_endsOf_27 rfl (lv_at hl 1 rfl) ?_
          refine lv_icmp_ne (tgt := 37) hx hb dX0_endsOf_28 (by decide) (fun c8 => ?_) (fun c8 => ?_)
          · have h := itF h c8
            obtain rfl := Option.some.inj h
            exact J5 _ _ _ (lv_sub hl [0, 1, 2, 3] rfl) hP hD hS
          · have h := itT h c8
            refine lv_iload_n hx hb dX0_endsOf_31 rfl (lv_at hl 2 rfl) ?_
            refine lv_iconst (v := 1) hx hb dX0_endsOf_32 (by decide) ?_
            refine lv_iload_n hx hb dX0_endsOf_33 rfl (lv_at hl 3 rfl) ?_
            refine lv_ishl hx hb dX0_endsOf_34 ?_
            refine lv_ior hx hb dX0_endsOf_35 ?_
            refine lv_istore_n (lv' := [(2, .int (x2_4 ||| ((1 : Int32) <<< (x3_4 &&& 31)))), (0, .ref a0), (1, .int x1_4), (3, .int x3_4)]) hx hb dX0_endsOf_36 rfl hl (by decide) rfl (fun ls hl => ?_)
            obtain rfl := Option.some.inj h
            exact J5 _ _ _ (lv_sub hl [1, 2, 0, 3] rfl) hP hD hS
  obtain ⟨q11, hb12, h⟩ := bd h
  refine L_4 x1 zowners zways zsize N 0 0 q11 hb12 ?_ _ _ _ (lv_sub hl [2, 3, 1, 0] rfl) hP hD hS
  intro ls H locs hl hP hD hS
  refine lv_iload_n hx hb dX0_endsOf_43 rfl (lv_at hl 0 rfl) ?_
  obtain rfl := Option.some.inj h
  exact hret _ _ _ _ _ rfl hP hD hS dX0_endsOf_44
def f_X0_ranked_L4 (N : Nat) (x1_4 : Int32) (zranks_4 : Nat → Int32) (zsize_4 : Int32) : Nat → Int32 → Int32 → Option (Int32)
  | 0, _, _ => none
  | n_4 + 1, x2_4, x3_4 =>
    if zsize_4 ≤ x3_4 then (some x2_4) else (chk (gi x3_4 12) (Option.bind (α := Int32) (if (zranks_4 (Int32.toNatClampNeg x3_4)) = x1_4 then (some (x2_4 ||| ((1 : Int32) <<< (x3_4 &&& 31)))) else (some (x2_4))) (fun q4 => f_X0_ranked_L4 N x1_4 zranks_4 zsize_4 n_4 q4 (x3_4 + 1))))
def f_X0_ranked (N : Nat) (x1 : Int32) (zranks : Nat → Int32) (zsize : Int32) : Option (Int32) :=
    Option.bind (f_X0_ranked_L4 N x1 zranks zsize N 0 0) (fun q9 => some q9)
set_option maxHeartbeats 4000000 in
set_option maxRecDepth 100000 in
theorem c_X0_ranked (l : Launch) (D : va_G) (cI cC cH : ClassId) (a0 : Nat) (a_owners : Nat) (a_ranks : Nat) (a_ways : Nat) (N : Nat) (x1 : Int32) (zranks : Nat → Int32) (zsize : Int32) (y : Int32) (h : f_X0_ranked N x1 zranks zsize = some y) : CTi l yX0_ranked cX0_ranked 4 (some .int) 0 0 D (tyL cI cC cH) [.ref a0, .int x1] [(a0, .inr (0, [.ref a_owners, .ref a_ranks, .ref a_ways, .int zsize])), (a_ranks, .inl (cI, 12, .inl zranks))] [(a0, .inr (0, [.ref a_owners, .ref a_ranks, .ref a_ways, .int zsize])), (a_ranks, .inl (cI, 12, .inl zranks))] y := by
  unfold f_X0_ranked at h
  refine ctI (by decide) (Nat.le_of_ble_eq_true rfl) ?_
  intro p e s m args below meth c A Q ls F hret hP hD hS hl
  have hx := F.1
  have hb := F.2.1
  have hown : s.vm.findClass RX0 = some m.cls := F.2.2.2.1
  have hts := F.2.2.2.2.1
  have hN := F.2.2.2.2.2.1
  have hK := F.2.2.2.2.2.2.1
  have hl : lv_has ls 4 [(0, .ref a0), (1, .int x1)] := hl
  refine lv_iconst (v := 0) hx hb dX0_ranked_0 (by decide) ?_
  refine lv_istore_n (lv' := [(2, .int 0), (0, .ref a0), (1, .int x1)]) hx hb dX0_ranked_1 rfl hl (by decide) rfl (fun ls hl => ?_)
  refine lv_iconst (v := 0) hx hb dX0_ranked_2 (by decide) ?_
  refine lv_istore_n (lv' := [(3, .int 0), (2, .int 0), (0, .ref a0), (1, .int x1)]) hx hb dX0_ranked_3 rfl hl (by decide) rfl (fun ls hl => ?_)
  have L_4 : ∀ (x1_4 : Int32) (zranks_4 : Nat → Int32) (zsize_4 : Int32), ∀ (n_4 : Nat) (x2_4 : Int32) (x3_4 : Int32) (q8 : (Int32)), f_X0_ranked_L4 N x1_4 zranks_4 zsize_4 n_4 x2_4 x3_4 = some q8 → (∀ (ls : Array Slot) (H : Heap) (locs : List Loc), lv_has ls 4 [(2, .int q8)] → va_P D vwCl [(a0, .inr (0, [.ref a_owners, .ref a_ranks, .ref a_ways, .int zsize_4])), (a_ranks, .inl (cI, 12, .inl zranks_4))] H → va_D A [(a0, .inr (0, [.ref a_owners, .ref a_ranks, .ref a_ways, .int zsize_4])), (a_ranks, .inl (cI, 12, .inl zranks_4))] → va_S A s.heap H locs → W p l e (rmm 0 0) s m args below meth c H locs 0 0 Q (F0 m 34 ls [])) → ∀ (ls : Array Slot) (H : Heap) (locs : List Loc), lv_has ls 4 [(0, .ref a0), (1, .int x1_4), (2, .int x2_4), (3, .int x3_4)] → va_P D vwCl [(a0, .inr (0, [.ref a_owners, .ref a_ranks, .ref a_ways, .int zsize_4])), (a_ranks, .inl (cI, 12, .inl zranks_4))] H → va_D A [(a0, .inr (0, [.ref a_owners, .ref a_ranks, .ref a_ways, .int zsize_4])), (a_ranks, .inl (cI, 12, .inl zranks_4))] → va_S A s.heap H locs → W p l e (rmm 0 0) s m args below meth c H locs 0 0 Q (F0 m 4 ls []) := by
    intro x1_4 zranks_4 zsize_4 n_4
    induction n_4 with
    | zero => intro x2_4 x3_4 q8 h; exact no_s h
    | succ n_4 ih_4 =>
      intro x2_4 x3_4 q8 h J_4 ls H locs hl hP hD hS
      rw [f_X0_ranked_L4] at h
      refine lv_iload_n hx hb dX0_ranked_4 rfl (lv_at hl 3 rfl) ?_
      refine lv_aload_n hx hb dX0_ranked_5 rfl (lv_at hl 0 rfl) ?_
      refine va_get (D := D) (ci := 0) (v := .int zsize_4) (C := RX0) (T := TX0) (N := 4) hx hb hts inG0 hown hK hP 0 rfl rfl 3 (by decide) (hts _ wd1_30) (fun _ h9 => h9) rfl dX0_ranked_6 ?_
      refine lv_icmp_ge (tgt := 34) hx hb dX0_ranked_9 (by decide) (fun c1 => ?_) (fun c1 => ?_)
      · have h := itT h c1
        obtain rfl := Option.some.inj h
        exact J_4 _ _ _ (lv_sub hl [2] rfl) hP hD hS
      · have h := itF h c1
        refine lv_aload_n hx hb dX0_ranked_12 rfl (lv_at hl 0 rfl) ?_
        refine va_get (D := D) (ci := 0) (v := .ref a_ranks) (C := RX0) (T := TX0) (N := 4) hx hb hts inG0 hown hK hP 0 rfl rfl 1 (by decide) (hts _ wd1_24) (fun _ h9 => h9) rfl dX0_ranked_13 ?_
        refine lv_iload_n hx hb dX0_ranked_16 rfl (lv_at hl 3 rfl) ?_
        obtain ⟨g2, h⟩ := chk_s h
        refine va_iald hx hb hK hP 1 0 rfl rfl (gi_in g2) dX0_ranked_17 ?_
        refine lv_iload_n hx hb dX0_ranked_18 rfl (lv_at hl 1 rfl) ?_
        obtain ⟨q4, hb7, h⟩ := bd h
        have J5 : ∀ (ls : Array Slot) (H : Heap) (locs : List Loc), lv_has ls 4 [(0, .ref a0), (1, .int x1_4), (2, .int q4), (3, .int x3_4)] → va_P D vwCl [(a0, .inr (0, [.ref a_owners, .ref a_ranks, .ref a_ways, .int zsize_4])), (a_ranks, .inl (cI, 12, .inl zranks_4))] H → va_D A [(a0, .inr (0, [.ref a_owners, .ref a_ranks, .ref a_ways, .int zsize_4])), (a_ranks, .inl (cI, 12, .inl zranks_4))] → va_S A s.heap H locs → W p l e (rmm 0 0) s m args below meth c H locs 0 0 Q (F0 m 28 ls []) := by
          intro ls H locs hl hP hD hS
          refine lv_iinc (v := x3_4 + 1) (lv' := [(3, .int (x3_4 + 1)), (0, .ref a0), (1, .int x1_4), (2, .int q4)]) hx hb dX0_ranked_28 hl (k := 3) rfl rfl (by decide) rfl (fun ls hl => ?_)
          refine lv_goto (tgt := 4) hx hb dX0_ranked_31 (by decide) ?_
          exact ih_4 q4 (x3_4 + 1) _ h J_4 _ _ _ (lv_sub hl [1, 2, 3, 0] rfl) hP hD hS
        clear h
        have h := hb7
        clear hb7
        refine lv_icmp_ne (tgt := 28) hx hb dX0_ranked_19 (by decide) (fun c3 => ?_) (fun c3 => ?_)
        · have h := itF h c3
          obtain rfl := Option.some.inj h
          exact J5 _ _ _ (lv_sub hl [0, 1, 2, 3] rfl) hP hD hS
        · have h := itT h c3
          refine lv_iload_n hx hb dX0_ranked_22 rfl (lv_at hl 2 rfl) ?_
          refine lv_iconst (v := 1) hx hb dX0_ranked_23 (by decide) ?_
          refine lv_iload_n hx hb dX0_ranked_24 rfl (lv_at hl 3 rfl) ?_
          refine lv_ishl hx hb dX0_ranked_25 ?_
          refine lv_ior hx hb dX0_ranked_26 ?_
          refine lv_istore_n (lv' := [(2, .int (x2_4 ||| ((1 : Int32) <<< (x3_4 &&& 31)))), (0, .ref a0), (1, .int x1_4), (3, .int x3_4)]) hx hb dX0_ranked_27 rfl hl (by decide) rfl (fun ls hl => ?_)
          obtain rfl := Option.some.inj h
          exact J5 _ _ _ (lv_sub hl [1, 2, 0, 3] rfl) hP hD hS
  obtain ⟨q9, hb10, h⟩ := bd h
  refine L_4 x1 zranks zsize N 0 0 q9 hb10 ?_ _ _ _ (lv_sub hl [2, 3, 1, 0] rfl) hP hD hS
  intro ls H locs hl hP hD hS
  refine lv_iload_n hx hb dX0_ranked_34 rfl (lv_at hl 0 rfl) ?_
  obtain rfl := Option.some.inj h
  exact hret _ _ _ _ _ rfl hP hD hS dX0_ranked_35
def f_X0_append (N : Nat) (x1 : Int32) (x2 : Int32) (zowners : Nat → Int32) (zranks : Nat → Int32) (zways : Nat → Int32) (zsize : Int32) : Option ((Nat → Int32) × (Nat → Int32) × (Nat → Int32) × Int32) :=
    if 12 ≤ zsize then (some (zowners, zranks, zways, zsize)) else (chk (gi zsize 12) (chk (gi zsize 12) (chk (gi zsize 12) (some (upd zowners (Int32.toNatClampNeg zsize) x1, upd zranks (Int32.toNatClampNeg zsize) x2, upd zways (Int32.toNatClampNeg zsize) 0, zsize + 1)))))
set_option maxHeartbeats 4000000 in
set_option maxRecDepth 100000 in
theorem c_X0_append (l : Launch) (D : va_G) (cI cC cH : ClassId) (a0 : Nat) (a_owners : Nat) (a_ranks : Nat) (a_ways : Nat) (N : Nat) (x1 : Int32) (x2 : Int32) (zowners : Nat → Int32) (zranks : Nat → Int32) (zways : Nat → Int32) (zsize : Int32) (y : (Nat → Int32) × (Nat → Int32) × (Nat → Int32) × Int32) (h : f_X0_append N x1 x2 zowners zranks zways zsize = some y) : CTv l yX0_append cX0_append 3 none 0 0 D (tyL cI cC cH) [.ref a0, .int x1, .int x2] [(a0, .inr (0, [.ref a_owners, .ref a_ranks, .ref a_ways, .int zsize])), (a_owners, .inl (cI, 12, .inl zowners)), (a_ranks, .inl (cI, 12, .inl zranks)), (a_ways, .inl (cI, 12, .inl zways))] [(a0, .inr (0, [.ref a_owners, .ref a_ranks, .ref a_ways, .int y.2.2.2])), (a_owners, .inl (cI, 12, .inl y.1)), (a_ranks, .inl (cI, 12, .inl y.2.1)), (a_ways, .inl (cI, 12, .inl y.2.2.1))] := by
  unfold f_X0_append at h
  refine ctV (by decide) (Nat.le_of_ble_eq_true rfl) ?_
  intro p e s m args below meth c A Q ls F hret hP hD hS hl
  have hx := F.1
  have hb := F.2.1
  have hown : s.vm.findClass RX0 = some m.cls := F.2.2.2.1
  have hts := F.2.2.2.2.1
  have hN := F.2.2.2.2.2.1
  have hK := F.2.2.2.2.2.2.1
  have hl : lv_has ls 3 [(0, .ref a0), (1, .int x1), (2, .int x2)] := hl
  refine lv_aload_n hx hb dX0_append_0 rfl (lv_at hl 0 rfl) ?_
  refine va_get (D := D) (ci := 0) (v := .int zsize) (C := RX0) (T := TX0) (N := 4) hx hb hts inG0 hown hK hP 0 rfl rfl 3 (by decide) (hts _ wd1_30) (fun _ h9 => h9) rfl dX0_append_1 ?_
  refine lv_bipush (v := 12) hx hb dX0_append_4 (by decide) ?_
  refine lv_icmp_ge (tgt := 49) hx hb dX0_append_6 (by decide) (fun c1 => ?_) (fun c1 => ?_)
  · have h := itT h c1
    obtain rfl := Option.some.inj h
    exact hret _ _ _ _ hP hD hS dX0_append_49
  · have h := itF h c1
    refine lv_aload_n hx hb dX0_append_9 rfl (lv_at hl 0 rfl) ?_
    refine va_get (D := D) (ci := 0) (v := .ref a_owners) (C := RX0) (T := TX0) (N := 4) hx hb hts inG0 hown hK hP 0 rfl rfl 0 (by decide) (hts _ wd1_21) (fun _ h9 => h9) rfl dX0_append_10 ?_
    refine lv_aload_n hx hb dX0_append_13 rfl (lv_at hl 0 rfl) ?_
    refine va_get (D := D) (ci := 0) (v := .int zsize) (C := RX0) (T := TX0) (N := 4) hx hb hts inG0 hown hK hP 0 rfl rfl 3 (by decide) (hts _ wd1_30) (fun _ h9 => h9) rfl dX0_append_14 ?_
    refine lv_iload_n hx hb dX0_append_17 rfl (lv_at hl 1 rfl) ?_
    obtain ⟨g2, h⟩ := chk_s h
    refine va_iast hx hb hK hP hD hS 1 0 rfl rfl (gi_in g2) dX0_append_18 (fun H locs hP hD hS => ?_)
    have hP : va_P D vwCl [(a0, .inr (0, [.ref a_owners, .ref a_ranks, .ref a_ways, .int zsize])), (a_owners, .inl (cI, 12, .inl (upd zowners (Int32.toNatClampNeg zsize) x1))), (a_ranks, .inl (cI, 12, .inl zranks)), (a_ways, .inl (cI, 12, .inl zways))] H := hP
    have hD : va_D A [(a0, .inr (0, [.ref a_owners, .ref a_ranks, .ref a_ways, .int zsize])), (a_owners, .inl (cI, 12, .inl (upd zowners (Int32.toNatClampNeg zsize) x1))), (a_ranks, .inl (cI, 12, .inl zranks)), (a_ways, .inl (cI, 12, .inl zways))] := hD
    refine lv_aload_n hx hb dX0_append_19 rfl (lv_at hl 0 rfl) ?_
    refine va_get (D := D) (ci := 0) (v := .ref a_ranks) (C := RX0) (T := TX0) (N := 4) hx hb hts inG0 hown hK hP 0 rfl rfl 1 (by decide) (hts _ wd1_24) (fun _ h9 => h9) rfl dX0_append_20 ?_
    refine lv_aload_n hx hb dX0_append_23 rfl (lv_at hl 0 rfl) ?_
    refine va_get (D := D) (ci := 0) (v := .int zsize) (C := RX0) (T := TX0) (N := 4) hx hb hts inG0 hown hK hP 0 rfl rfl 3 (by decide) (hts _ wd1_30) (fun _ h9 => h9) rfl dX0_append_24 ?_
    refine lv_iload_n hx hb dX0_append_27 rfl (lv_at hl 2 rfl) ?_
    obtain ⟨g3, h⟩ := chk_s h
    refine va_iast hx hb hK hP hD hS 2 0 rfl rfl (gi_in g3) dX0_append_28 (fun H locs hP hD hS => ?_)
    have hP : va_P D vwCl [(a0, .inr (0, [.ref a_owners, .ref a_ranks, .ref a_ways, .int zsize])), (a_owners, .inl (cI, 12, .inl (upd zowners (Int32.toNatClampNeg zsize) x1))), (a_ranks, .inl (cI, 12, .inl (upd zranks (Int32.toNatClampNeg zsize) x2))), (a_ways, .inl (cI, 12, .inl zways))] H := hP
    have hD : va_D A [(a0, .inr (0, [.ref a_owners, .ref a_ranks, .ref a_ways, .int zsize])), (a_owners, .inl (cI, 12, .inl (upd zowners (Int32.toNatClampNeg zsize) x1))), (a_ranks, .inl (cI, 12, .inl (upd zranks (Int32.toNatClampNeg zsize) x2))), (a_ways, .inl (cI, 12, .inl zways))] := hD
    refine lv_aload_n hx hb dX0_append_29 rfl (lv_at hl 0 rfl) ?_
    refine va_get (D := D) (ci := 0) (v := .ref a_ways) (C := RX0) (T := TX0) (N := 4) hx hb hts inG0 hown hK hP 0 rfl rfl 2 (by decide) (hts _ wd1_26) (fun _ h9 => h9) rfl dX0_append_30 ?_
    refine lv_aload_n hx hb dX0_append_33 rfl (lv_at hl 0 rfl) ?_
    refine va_get (D := D) (ci := 0) (v := .int zsize) (C := RX0) (T := TX0) (N := 4) hx hb hts inG0 hown hK hP 0 rfl rfl 3 (by decide) (hts _ wd1_30) (fun _ h9 => h9) rfl dX0_append_34 ?_
    refine lv_iconst (v := 0) hx hb dX0_append_37 (by decide) ?_
    obtain ⟨g4, h⟩ := chk_s h
    refine va_iast hx hb hK hP hD hS 3 0 rfl rfl (gi_in g4) dX0_append_38 (fun H locs hP hD hS => ?_)
    have hP : va_P D vwCl [(a0, .inr (0, [.ref a_owners, .ref a_ranks, .ref a_ways, .int zsize])), (a_owners, .inl (cI, 12, .inl (upd zowners (Int32.toNatClampNeg zsize) x1))), (a_ranks, .inl (cI, 12, .inl (upd zranks (Int32.toNatClampNeg zsize) x2))), (a_ways, .inl (cI, 12, .inl (upd zways (Int32.toNatClampNeg zsize) 0)))] H := hP
    have hD : va_D A [(a0, .inr (0, [.ref a_owners, .ref a_ranks, .ref a_ways, .int zsize])), (a_owners, .inl (cI, 12, .inl (upd zowners (Int32.toNatClampNeg zsize) x1))), (a_ranks, .inl (cI, 12, .inl (upd zranks (Int32.toNatClampNeg zsize) x2))), (a_ways, .inl (cI, 12, .inl (upd zways (Int32.toNatClampNeg zsize) 0)))] := hD
    refine lv_aload_n hx hb dX0_append_39 rfl (lv_at hl 0 rfl) ?_
    refine lv_dup hx hb dX0_append_40 rfl ?_
    refine va_get (D := D) (ci := 0) (v := .int zsize) (C := RX0) (T := TX0) (N := 4) hx hb hts inG0 hown hK hP 0 rfl rfl 3 (by decide) (hts _ wd1_30) (fun _ h9 => h9) rfl dX0_append_41 ?_
    refine lv_iconst (v := 1) hx hb dX0_append_44 (by decide) ?_
    refine lv_iadd hx hb dX0_append_45 ?_
    refine va_put (D := D) (ci := 0) (v := .int (zsize + 1)) (ty := .int) (C := RX0) (T := TX0) (N := 4) hx hb hts inG0 tyX0 tyX0_ok nmX0 hown hK hP hD hS 0 rfl rfl 3 (by decide) (hts _ wd1_30) (fun _ h9 => h9) rfl (by decide +kernel) rfl rfl (Nat.le_of_ble_eq_true rfl) dX0_append_46 (fun H locs hP hD hS => ?_)
    have hP : va_P D vwCl [(a0, .inr (0, [.ref a_owners, .ref a_ranks, .ref a_ways, .int (zsize + 1)])), (a_owners, .inl (cI, 12, .inl (upd zowners (Int32.toNatClampNeg zsize) x1))), (a_ranks, .inl (cI, 12, .inl (upd zranks (Int32.toNatClampNeg zsize) x2))), (a_ways, .inl (cI, 12, .inl (upd zways (Int32.toNatClampNeg zsize) 0)))] H := hP
    have hD : va_D A [(a0, .inr (0, [.ref a_owners, .ref a_ranks, .ref a_ways, .int (zsize + 1)])), (a_owners, .inl (cI, 12, .inl (upd zowners (Int32.toNatClampNeg zsize) x1))), (a_ranks, .inl (cI, 12, .inl (upd zranks (Int32.toNatClampNeg zsize) x2))), (a_ways, .inl (cI, 12, .inl (upd zways (Int32.toNatClampNeg zsize) 0)))] := hD
    obtain rfl := Option.some.inj h
    exact hret _ _ _ _ hP hD hS dX0_append_49
def f_X0_remove_L2 (N : Nat) (zsize_2 : Int32) : Nat → Int32 → (Nat → Int32) → (Nat → Int32) → (Nat → Int32) → Option ((Nat → Int32) × (Nat → Int32) × (Nat → Int32))
  | 0, _, _, _, _ => none
  | n_2 + 1, x2_2, zowners_2, zranks_2, zways_2 =>
    if zsize_2 ≤ (x2_2 + 1) then (some (zowners_2, zranks_2, zways_2)) else (chk (gi (x2_2 + 1) 12) (chk (gi x2_2 12) (chk (gi (x2_2 + 1) 12) (chk (gi x2_2 12) (chk (gi (x2_2 + 1) 12) (chk (gi x2_2 12) (f_X0_remove_L2 N zsize_2 n_2 (x2_2 + 1) (upd zowners_2 (Int32.toNatClampNeg x2_2) (zowners_2 (Int32.toNatClampNeg (x2_2 + 1)))) (upd zranks_2 (Int32.toNatClampNeg x2_2) (zranks_2 (Int32.toNatClampNeg (x2_2 + 1)))) (upd zways_2 (Int32.toNatClampNeg x2_2) (zways_2 (Int32.toNatClampNeg (x2_2 + 1)))))))))))
def f_X0_remove_L78 (N : Nat) (x2_78 : Int32) (zsize_78 : Int32) : Nat → Int32 → (Nat → Int32) → Option ((Nat → Int32))
  | 0, _, _ => none
  | n_78 + 1, x3_78, zways_78 =>
    if zsize_78 ≤ x3_78 then (some zways_78) else (chk (gi x3_78 12) (chk (gi x3_78 12) (chk (gi x3_78 12) (f_X0_remove_L78 N x2_78 zsize_78 n_78 (x3_78 + 1) (upd zways_78 (Int32.toNatClampNeg x3_78) (((zways_78 (Int32.toNatClampNeg x3_78)) &&& x2_78) ||| (((zways_78 (Int32.toNatClampNeg x3_78)) >>> (1 &&& 31)) &&& (x2_78 ^^^ (-1)))))))))
def f_X0_remove (N : Nat) (x1 : Int32) (zowners : Nat → Int32) (zranks : Nat → Int32) (zways : Nat → Int32) (zsize : Int32) : Option ((Nat → Int32) × (Nat → Int32) × (Nat → Int32) × Int32) :=
    Option.bind (f_X0_remove_L2 N zsize N x1 zowners zranks zways) (fun q9 => Option.bind (f_X0_remove_L78 N (((1 : Int32) <<< (x1 &&& 31)) - 1) (zsize - 1) N 0 q9.2.2) (fun q15 => some (q9.1, q9.2.1, q15, zsize - 1)))
set_option maxHeartbeats 4000000 in
set_option maxRecDepth 100000 in
theorem c_X0_remove (l : Launch) (D : va_G) (cI cC cH : ClassId) (a0 : Nat) (a_owners : Nat) (a_ranks : Nat) (a_ways : Nat) (N : Nat) (x1 : Int32) (zowners : Nat → Int32) (zranks : Nat → Int32) (zways : Nat → Int32) (zsize : Int32) (y : (Nat → Int32) × (Nat → Int32) × (Nat → Int32) × Int32) (h : f_X0_remove N x1 zowners zranks zways zsize = some y) : CTv l yX0_remove cX0_remove 4 none 0 0 D (tyL cI cC cH) [.ref a0, .int x1] [(a0, .inr (0, [.ref a_owners, .ref a_ranks, .ref a_ways, .int zsize])), (a_owners, .inl (cI, 12, .inl zowners)), (a_ranks, .inl (cI, 12, .inl zranks)), (a_ways, .inl (cI, 12, .inl zways))] [(a0, .inr (0, [.ref a_owners, .ref a_ranks, .ref a_ways, .int y.2.2.2])), (a_owners, .inl (cI, 12, .inl y.1)), (a_ranks, .inl (cI, 12, .inl y.2.1)), (a_ways, .inl (cI, 12, .inl y.2.2.1))] := by
  unfold f_X0_remove at h
  refine ctV (by decide) (Nat.le_of_ble_eq_true rfl) ?_
  intro p e s m args below meth c A Q ls F hret hP hD hS hl
  have hx := F.1
  have hb := F.2.1
  have hown : s.vm.findClass RX0 = some m.cls := F.2.2.2.1
  have hts := F.2.2.2.2.1
  have hN := F.2.2.2.2.2.1
  have hK := F.2.2.2.2.2.2.1
  have hl : lv_has ls 4 [(0, .ref a0), (1, .int x1)] := hl
  refine lv_iload_n hx hb dX0_remove_0 rfl (lv_at hl 1 rfl) ?_
  refine lv_istore_n (lv' := [(2, .int x1), (0, .ref a0), (1, .int x1)]) hx hb dX0_remove_1 rfl hl (by decide) rfl (fun ls hl => ?_)
  have L_2 : ∀ (x1_2 : Int32) (zsize_2 : Int32), ∀ (n_2 : Nat) (x2_2 : Int32) (zowners_2 : Nat → Int32) (zranks_2 : Nat → Int32) (zways_2 : Nat → Int32) (q8 : ((Nat → Int32) × (Nat → Int32) × (Nat → Int32))), f_X0_remove_L2 N zsize_2 n_2 x2_2 zowners_2 zranks_2 zways_2 = some q8 → (∀ (ls : Array Slot) (H : Heap) (locs : List Loc), lv_has ls 4 [(0, .ref a0), (1, .int x1_2)] → va_P D vwCl [(a0, .inr (0, [.ref a_owners, .ref a_ranks, .ref a_ways, .int zsize_2])), (a_owners, .inl (cI, 12, .inl q8.1)), (a_ranks, .inl (cI, 12, .inl q8.2.1)), (a_ways, .inl (cI, 12, .inl q8.2.2))] H → va_D A [(a0, .inr (0, [.ref a_owners, .ref a_ranks, .ref a_ways, .int zsize_2])), (a_owners, .inl (cI, 12, .inl q8.1)), (a_ranks, .inl (cI, 12, .inl q8.2.1)), (a_ways, .inl (cI, 12, .inl q8.2.2))] → va_S A s.heap H locs → W p l e (rmm 0 0) s m args below meth c H locs 0 0 Q (F0 m 60 ls [])) → ∀ (ls : Array Slot) (H : Heap) (locs : List Loc), lv_has ls 4 [(0, .ref a0), (1, .int x1_2), (2, .int x2_2)] → va_P D vwCl [(a0, .inr (0, [.ref a_owners, .ref a_ranks, .ref a_ways, .int zsize_2])), (a_owners, .inl (cI, 12, .inl zowners_2)), (a_ranks, .inl (cI, 12, .inl zranks_2)), (a_ways, .inl (cI, 12, .inl zways_2))] H → va_D A [(a0, .inr (0, [.ref a_owners, .ref a_ranks, .ref a_ways, .int zsize_2])), (a_owners, .inl (cI, 12, .inl zowners_2)), (a_ranks, .inl (cI, 12, .inl zranks_2)), (a_ways, .inl (cI, 12, .inl zways_2))] → va_S A s.heap H locs → W p l e (rmm 0 0) s m args below meth c H locs 0 0 Q (F0 m 2 ls []) := by
    intro x1_2 zsize_2 n_2
    induction n_2 with
    | zero => intro x2_2 zowners_2 zranks_2 zways_2 q8 h; exact no_s h
    | succ n_2 ih_2 =>
      intro x2_2 zowners_2 zranks_2 zways_2 q8 h J_2 ls H locs hl hP hD hS
      rw [f_X0_remove_L2] at h
      refine lv_iload_n hx hb dX0_remove_2 rfl (lv_at hl 2 rfl) ?_
      refine lv_iconst (v := 1) hx hb dX0_remove_3 (by decide) ?_
      refine lv_iadd hx hb dX0_remove_4 ?_
      refine lv_aload_n hx hb dX0_remove_5 rfl (lv_at hl 0 rfl) ?_
      refine va_get (D := D) (ci := 0) (v := .int zsize_2) (C := RX0) (T := TX0) (N := 4) hx hb hts inG0 hown hK hP 0 rfl rfl 3 (by decide) (hts _ wd1_30) (fun _ h9 => h9) rfl dX0_remove_6 ?_
      refine lv_icmp_ge (tgt := 60) hx hb dX0_remove_9 (by decide) (fun c1 => ?_) (fun c1 => ?_)
      · have h := itT h c1
        obtain rfl := Option.some.inj h
        exact J_2 _ _ _ (lv_sub hl [0, 1] rfl) hP hD hS
      · have h := itF h c1
        refine lv_aload_n hx hb dX0_remove_12 rfl (lv_at hl 0 rfl) ?_
        refine va_get (D := D) (ci := 0) (v := .ref a_owners) (C := RX0) (T := TX0) (N := 4) hx hb hts inG0 hown hK hP 0 rfl rfl 0 (by decide) (hts _ wd1_21) (fun _ h9 => h9) rfl dX0_remove_13 ?_
        refine lv_iload_n hx hb dX0_remove_16 rfl (lv_at hl 2 rfl) ?_
        refine lv_aload_n hx hb dX0_remove_17 rfl (lv_at hl 0 rfl) ?_
        refine va_get (D := D) (ci := 0) (v := .ref a_owners) (C := RX0) (T := TX0) (N := 4) hx hb hts inG0 hown hK hP 0 rfl rfl 0 (by decide) (hts _ wd1_21) (fun _ h9 => h9) rfl dX0_remove_18 ?_
        refine lv_iload_n hx hb dX0_remove_21 rfl (lv_at hl 2 rfl) ?_
        refine lv_iconst (v := 1) hx hb dX0_remove_22 (by decide) ?_
        refine lv_iadd hx hb dX0_remove_23 ?_
        obtain ⟨g2, h⟩ := chk_s h
        refine va_iald hx hb hK hP 1 0 rfl rfl (gi_in g2) dX0_remove_24 ?_
        obtain ⟨g3, h⟩ := chk_s h
        refine va_iast hx hb hK hP hD hS 1 0 rfl rfl (gi_in g3) dX0_remove_25 (fun H locs hP hD hS => ?_)
        have hP : va_P D vwCl [(a0, .inr (0, [.ref a_owners, .ref a_ranks, .ref a_ways, .int zsize_2])), (a_owners, .inl (cI, 12, .inl (upd zowners_2 (Int32.toNatClampNeg x2_2) (zowners_2 (Int32.toNatClampNeg (x2_2 + 1)))))), (a_ranks, .inl (cI, 12, .inl zranks_2)), (a_ways, .inl (cI, 12, .inl zways_2))] H := hP
        have hD : va_D A [(a0, .inr (0, [.ref a_owners, .ref a_ranks, .ref a_ways, .int zsize_2])), (a_owners, .inl (cI, 12, .inl (upd zowners_2 (Int32.toNatClampNeg x2_2) (zowners_2 (Int32.toNatClampNeg (x2_2 + 1)))))), (a_ranks, .inl (cI, 12, .inl zranks_2)), (a_ways, .inl (cI, 12, .inl zways_2))] := hD
        refine lv_aload_n hx hb dX0_remove_26 rfl (lv_at hl 0 rfl) ?_
        refine va_get (D := D) (ci := 0) (v := .ref a_ranks) (C := RX0) (T := TX0) (N := 4) hx hb hts inG0 hown hK hP 0 rfl rfl 1 (by decide) (hts _ wd1_24) (fun _ h9 => h9) rfl dX0_remove_27 ?_
        refine lv_iload_n hx hb dX0_remove_30 rfl (lv_at hl 2 rfl) ?_
        refine lv_aload_n hx hb dX0_remove_31 rfl (lv_at hl 0 rfl) ?_
        refine va_get (D := D) (ci := 0) (v := .ref a_ranks) (C := RX0) (T := TX0) (N := 4) hx hb hts inG0 hown hK hP 0 rfl rfl 1 (by decide) (hts _ wd1_24) (fun _ h9 => h9) rfl dX0_remove_32 ?_
        refine lv_iload_n hx hb dX0_remove_35 rfl (lv_at hl 2 rfl) ?_
        refine lv_iconst (v := 1) hx hb dX0_remove_36 (by decide) ?_
        refine lv_iadd hx hb dX0_remove_37 ?_
        obtain ⟨g4, h⟩ := chk_s h
        refine va_iald hx hb hK hP 2 0 rfl rfl (gi_in g4) dX0_remove_38 ?_
        obtain ⟨g5, h⟩ := chk_s h
        refine va_iast hx hb hK hP hD hS 2 0 rfl rfl (gi_in g5) dX0_remove_39 (fun H locs hP hD hS => ?_)
        have hP : va_P D vwCl [(a0, .inr (0, [.ref a_owners, .ref a_ranks, .ref a_ways, .int zsize_2])), (a_owners, .inl (cI, 12, .inl (upd zowners_2 (Int32.toNatClampNeg x2_2) (zowners_2 (Int32.toNatClampNeg (x2_2 + 1)))))), (a_ranks, .inl (cI, 12, .inl (upd zranks_2 (Int32.toNatClampNeg x2_2) (zranks_2 (Int32.toNatClampNeg (x2_2 + 1)))))), (a_ways, .inl (cI, 12, .inl zways_2))] H := hP
        have hD : va_D A [(a0, .inr (0, [.ref a_owners, .ref a_ranks, .ref a_ways, .int zsize_2])), (a_owners, .inl (cI, 12, .inl (upd zowners_2 (Int32.toNatClampNeg x2_2) (zowners_2 (Int32.toNatClampNeg (x2_2 + 1)))))), (a_ranks, .inl (cI, 12, .inl (upd zranks_2 (Int32.toNatClampNeg x2_2) (zranks_2 (Int32.toNatClampNeg (x2_2 + 1)))))), (a_ways, .inl (cI, 12, .inl zways_2))] := hD
        refine lv_aload_n hx hb dX0_remove_40 rfl (lv_at hl 0 rfl) ?_
        refine va_get (D := D) (ci := 0) (v := .ref a_ways) (C := RX0) (T := TX0) (N := 4) hx hb hts inG0 hown hK hP 0 rfl rfl 2 (by decide) (hts _ wd1_26) (fun _ h9 => h9) rfl dX0_remove_41 ?_
        refine lv_iload_n hx hb dX0_remove_44 rfl (lv_at hl 2 rfl) ?_
        refine lv_aload_n hx hb dX0_remove_45 rfl (lv_at hl 0 rfl) ?_
        refine va_get (D := D) (ci := 0) (v := .ref a_ways) (C := RX0) (T := TX0) (N := 4) hx hb hts inG0 hown hK hP 0 rfl rfl 2 (by decide) (hts _ wd1_26) (fun _ h9 => h9) rfl dX0_remove_46 ?_
        refine lv_iload_n hx hb dX0_remove_49 rfl (lv_at hl 2 rfl) ?_
        refine lv_iconst (v := 1) hx hb dX0_remove_50 (by decide) ?_
        refine lv_iadd hx hb dX0_remove_51 ?_
        obtain ⟨g6, h⟩ := chk_s h
        refine va_iald hx hb hK hP 3 0 rfl rfl (gi_in g6) dX0_remove_52 ?_
        obtain ⟨g7, h⟩ := chk_s h
        refine va_iast hx hb hK hP hD hS 3 0 rfl rfl (gi_in g7) dX0_remove_53 (fun H locs hP hD hS => ?_)
        have hP : va_P D vwCl [(a0, .inr (0, [.ref a_owners, .ref a_ranks, .ref a_ways, .int zsize_2])), (a_owners, .inl (cI, 12, .inl (upd zowners_2 (Int32.toNatClampNeg x2_2) (zowners_2 (Int32.toNatClampNeg (x2_2 + 1)))))), (a_ranks, .inl (cI, 12, .inl (upd zranks_2 (Int32.toNatClampNeg x2_2) (zranks_2 (Int32.toNatClampNeg (x2_2 + 1)))))), (a_ways, .inl (cI, 12, .inl (upd zways_2 (Int32.toNatClampNeg x2_2) (zways_2 (Int32.toNatClampNeg (x2_2 + 1))))))] H := hP
        have hD : va_D A [(a0, .inr (0, [.ref a_owners, .ref a_ranks, .ref a_ways, .int zsize_2])), (a_owners, .inl (cI, 12, .inl (upd zowners_2 (Int32.toNatClampNeg x2_2) (zowners_2 (Int32.toNatClampNeg (x2_2 + 1)))))), (a_ranks, .inl (cI, 12, .inl (upd zranks_2 (Int32.toNatClampNeg x2_2) (zranks_2 (Int32.toNatClampNeg (x2_2 + 1)))))), (a_ways, .inl (cI, 12, .inl (upd zways_2 (Int32.toNatClampNeg x2_2) (zways_2 (Int32.toNatClampNeg (x2_2 + 1))))))] := hD
        refine lv_iinc (v := x2_2 + 1) (lv' := [(2, .int (x2_2 + 1)), (0, .ref a0), (1, .int x1_2)]) hx hb dX0_remove_54 hl (k := 2) rfl rfl (by decide) rfl (fun ls hl => ?_)
        refine lv_goto (tgt := 2) hx hb dX0_remove_57 (by decide) ?_
        exact ih_2 (x2_2 + 1) (upd zowners_2 (Int32.toNatClampNeg x2_2) (zowners_2 (Int32.toNatClampNeg (x2_2 + 1)))) (upd zranks_2 (Int32.toNatClampNeg x2_2) (zranks_2 (Int32.toNatClampNeg (x2_2 + 1)))) (upd zways_2 (Int32.toNatClampNeg x2_2) (zways_2 (Int32.toNatClampNeg (x2_2 + 1)))) _ h J_2 _ _ _ (lv_sub hl [1, 2, 0] rfl) hP hD hS
  obtain ⟨q9, hb17, h⟩ := bd h
  refine L_2 x1 zsize N x1 zowners zranks zways q9 hb17 ?_ _ _ _ (lv_sub hl [1, 2, 0] rfl) hP hD hS
  intro ls H locs hl hP hD hS
  refine lv_aload_n hx hb dX0_remove_60 rfl (lv_at hl 0 rfl) ?_
  refine lv_dup hx hb dX0_remove_61 rfl ?_
  refine va_get (D := D) (ci := 0) (v := .int zsize) (C := RX0) (T := TX0) (N := 4) hx hb hts inG0 hown hK hP 0 rfl rfl 3 (by decide) (hts _ wd1_30) (fun _ h9 => h9) rfl dX0_remove_62 ?_
  refine lv_iconst (v := 1) hx hb dX0_remove_65 (by decide) ?_
  refine lv_isub hx hb dX0_remove_66 ?_
  refine va_put (D := D) (ci := 0) (v := .int (zsize - 1)) (ty := .int) (C := RX0) (T := TX0) (N := 4) hx hb hts inG0 tyX0 tyX0_ok nmX0 hown hK hP hD hS 0 rfl rfl 3 (by decide) (hts _ wd1_30) (fun _ h9 => h9) rfl (by decide +kernel) rfl rfl (Nat.le_of_ble_eq_true rfl) dX0_remove_67 (fun H locs hP hD hS => ?_)
  have hP : va_P D vwCl [(a0, .inr (0, [.ref a_owners, .ref a_ranks, .ref a_ways, .int (zsize - 1)])), (a_owners, .inl (cI, 12, .inl q9.1)), (a_ranks, .inl (cI, 12, .inl q9.2.1)), (a_ways, .inl (cI, 12, .inl q9.2.2))] H := hP
  have hD : va_D A [(a0, .inr (0, [.ref a_owners, .ref a_ranks, .ref a_ways, .int (zsize - 1)])), (a_owners, .inl (cI, 12, .inl q9.1)), (a_ranks, .inl (cI, 12, .inl q9.2.1)), (a_ways, .inl (cI, 12, .inl q9.2.2))] := hD
  refine lv_iconst (v := 1) hx hb dX0_remove_70 (by decide) ?_
  refine lv_iload_n hx hb dX0_remove_71 rfl (lv_at hl 1 rfl) ?_
  refine lv_ishl hx hb dX0_remove_72 ?_
  refine lv_iconst (v := 1) hx hb dX0_remove_73 (by decide) ?_
  refine lv_isub hx hb dX0_remove_74 ?_
  refine lv_istore_n (lv' := [(2, .int (((1 : Int32) <<< (x1 &&& 31)) - 1)), (0, .ref a0), (1, .int x1)]) hx hb dX0_remove_75 rfl hl (by decide) rfl (fun ls hl => ?_)
  refine lv_iconst (v := 0) hx hb dX0_remove_76 (by decide) ?_
  refine lv_istore_n (lv' := [(3, .int 0), (2, .int (((1 : Int32) <<< (x1 &&& 31)) - 1)), (0, .ref a0), (1, .int x1)]) hx hb dX0_remove_77 rfl hl (by decide) rfl (fun ls hl => ?_)
  have L_78 : ∀ (x2_78 : Int32) (zowners_78 : Nat → Int32) (zranks_78 : Nat → Int32) (zsize_78 : Int32), ∀ (n_78 : Nat) (x3_78 : Int32) (zways_78 : Nat → Int32) (q14 : ((Nat → Int32))), f_X0_remove_L78 N x2_78 zsize_78 n_78 x3_78 zways_78 = some q14 → (∀ (ls : Array Slot) (H : Heap) (locs : List Loc), lv_has ls 4 [] → va_P D vwCl [(a0, .inr (0, [.ref a_owners, .ref a_ranks, .ref a_ways, .int zsize_78])), (a_owners, .inl (cI, 12, .inl zowners_78)), (a_ranks, .inl (cI, 12, .inl zranks_78)), (a_ways, .inl (cI, 12, .inl q14))] H → va_D A [(a0, .inr (0, [.ref a_owners, .ref a_ranks, .ref a_ways, .int zsize_78])), (a_owners, .inl (cI, 12, .inl zowners_78)), (a_ranks, .inl (cI, 12, .inl zranks_78)), (a_ways, .inl (cI, 12, .inl q14))] → va_S A s.heap H locs → W p l e (rmm 0 0) s m args below meth c H locs 0 0 Q (F0 m 119 ls [])) → ∀ (ls : Array Slot) (H : Heap) (locs : List Loc), lv_has ls 4 [(0, .ref a0), (2, .int x2_78), (3, .int x3_78)] → va_P D vwCl [(a0, .inr (0, [.ref a_owners, .ref a_ranks, .ref a_ways, .int zsize_78])), (a_owners, .inl (cI, 12, .inl zowners_78)), (a_ranks, .inl (cI, 12, .inl zranks_78)), (a_ways, .inl (cI, 12, .inl zways_78))] H → va_D A [(a0, .inr (0, [.ref a_owners, .ref a_ranks, .ref a_ways, .int zsize_78])), (a_owners, .inl (cI, 12, .inl zowners_78)), (a_ranks, .inl (cI, 12, .inl zranks_78)), (a_ways, .inl (cI, 12, .inl zways_78))] → va_S A s.heap H locs → W p l e (rmm 0 0) s m args below meth c H locs 0 0 Q (F0 m 78 ls []) := by
    intro x2_78 zowners_78 zranks_78 zsize_78 n_78
    induction n_78 with
    | zero => intro x3_78 zways_78 q14 h; exact no_s h
    | succ n_78 ih_78 =>
      intro x3_78 zways_78 q14 h J_78 ls H locs hl hP hD hS
      rw [f_X0_remove_L78] at h
      refine lv_iload_n hx hb dX0_remove_78 rfl (lv_at hl 2 rfl) ?_
      refine lv_aload_n hx hb dX0_remove_79 rfl (lv_at hl 0 rfl) ?_
      refine va_get (D := D) (ci := 0) (v := .int zsize_78) (C := RX0) (T := TX0) (N := 4) hx hb hts inG0 hown hK hP 0 rfl rfl 3 (by decide) (hts _ wd1_30) (fun _ h9 => h9) rfl dX0_remove_80 ?_
      refine lv_icmp_ge (tgt := 119) hx hb dX0_remove_83 (by decide) (fun c10 => ?_) (fun c10 => ?_)
      · have h := itT h c10
        obtain rfl := Option.some.inj h
        exact J_78 _ _ _ (lv_sub hl [] rfl) hP hD hS
      · have h := itF h c10
        refine lv_aload_n hx hb dX0_remove_86 rfl (lv_at hl 0 rfl) ?_
        refine va_get (D := D) (ci := 0) (v := .ref a_ways) (C := RX0) (T := TX0) (N := 4) hx hb hts inG0 hown hK hP 0 rfl rfl 2 (by decide) (hts _ wd1_26) (fun _ h9 => h9) rfl dX0_remove_87 ?_
        refine lv_iload_n hx hb dX0_remove_90 rfl (lv_at hl 2 rfl) ?_
        refine lv_aload_n hx hb dX0_remove_91 rfl (lv_at hl 0 rfl) ?_
        refine va_get (D := D) (ci := 0) (v := .ref a_ways) (C := RX0) (T := TX0) (N := 4) hx hb hts inG0 hown hK hP 0 rfl rfl 2 (by decide) (hts _ wd1_26) (fun _ h9 => h9) rfl dX0_remove_92 ?_
        refine lv_iload_n hx hb dX0_remove_95 rfl (lv_at hl 2 rfl) ?_
        obtain ⟨g11, h⟩ := chk_s h
        refine va_iald hx hb hK hP 3 0 rfl rfl (gi_in g11) dX0_remove_96 ?_
        refine lv_iload_n hx hb dX0_remove_97 rfl (lv_at hl 1 rfl) ?_
        refine lv_iand hx hb dX0_remove_98 ?_
        refine lv_aload_n hx hb dX0_remove_99 rfl (lv_at hl 0 rfl) ?_
        refine va_get (D := D) (ci := 0) (v := .ref a_ways) (C := RX0) (T := TX0) (N := 4) hx hb hts inG0 hown hK hP 0 rfl rfl 2 (by decide) (hts _ wd1_26) (fun _ h9 => h9) rfl dX0_remove_100 ?_
        refine lv_iload_n hx hb dX0_remove_103 rfl (lv_at hl 2 rfl) ?_
        obtain ⟨g12, h⟩ := chk_s h
        refine va_iald hx hb hK hP 3 0 rfl rfl (gi_in g12) dX0_remove_104 ?_
        refine lv_iconst (v := 1) hx hb dX0_remove_105 (by decide) ?_
        refine lv_ishr hx hb dX0_remove_106 ?_
        refine lv_iload_n hx hb dX0_remove_107 rfl (lv_at hl 1 rfl) ?_
        refine lv_iconst (v := (-1)) hx hb dX0_remove_108 (by decide) ?_
        refine lv_ixor hx hb dX0_remove_109 ?_
        refine lv_iand hx hb dX0_remove_110 ?_
        refine lv_ior hx hb dX0_remove_111 ?_
        obtain ⟨g13, h⟩ := chk_s h
        refine va_iast hx hb hK hP hD hS 3 0 rfl rfl (gi_in g13) dX0_remove_112 (fun H locs hP hD hS => ?_)
        have hP : va_P D vwCl [(a0, .inr (0, [.ref a_owners, .ref a_ranks, .ref a_ways, .int zsize_78])), (a_owners, .inl (cI, 12, .inl zowners_78)), (a_ranks, .inl (cI, 12, .inl zranks_78)), (a_ways, .inl (cI, 12, .inl (upd zways_78 (Int32.toNatClampNeg x3_78) (((zways_78 (Int32.toNatClampNeg x3_78)) &&& x2_78) ||| (((zways_78 (Int32.toNatClampNeg x3_78)) >>> (1 &&& 31)) &&& (x2_78 ^^^ (-1)))))))] H := hP
        have hD : va_D A [(a0, .inr (0, [.ref a_owners, .ref a_ranks, .ref a_ways, .int zsize_78])), (a_owners, .inl (cI, 12, .inl zowners_78)), (a_ranks, .inl (cI, 12, .inl zranks_78)), (a_ways, .inl (cI, 12, .inl (upd zways_78 (Int32.toNatClampNeg x3_78) (((zways_78 (Int32.toNatClampNeg x3_78)) &&& x2_78) ||| (((zways_78 (Int32.toNatClampNeg x3_78)) >>> (1 &&& 31)) &&& (x2_78 ^^^ (-1)))))))] := hD
        refine lv_iinc (v := x3_78 + 1) (lv' := [(3, .int (x3_78 + 1)), (0, .ref a0), (2, .int x2_78)]) hx hb dX0_remove_113 hl (k := 2) rfl rfl (by decide) rfl (fun ls hl => ?_)
        refine lv_goto (tgt := 78) hx hb dX0_remove_116 (by decide) ?_
        exact ih_78 (x3_78 + 1) (upd zways_78 (Int32.toNatClampNeg x3_78) (((zways_78 (Int32.toNatClampNeg x3_78)) &&& x2_78) ||| (((zways_78 (Int32.toNatClampNeg x3_78)) >>> (1 &&& 31)) &&& (x2_78 ^^^ (-1))))) _ h J_78 _ _ _ (lv_sub hl [1, 2, 0] rfl) hP hD hS
  obtain ⟨q15, hb16, h⟩ := bd h
  refine L_78 (((1 : Int32) <<< (x1 &&& 31)) - 1) q9.1 q9.2.1 (zsize - 1) N 0 q9.2.2 q15 hb16 ?_ _ _ _ (lv_sub hl [2, 1, 0] rfl) hP hD hS
  intro ls H locs hl hP hD hS
  obtain rfl := Option.some.inj h
  exact hret _ _ _ _ hP hD hS dX0_remove_119
def f_X0_copyFrom_L10 (N : Nat) (zsize_10 : Int32) (zp0_owners_10 : Nat → Int32) (zp0_ranks_10 : Nat → Int32) (zp0_ways_10 : Nat → Int32) : Nat → Int32 → (Nat → Int32) → (Nat → Int32) → (Nat → Int32) → Option ((Nat → Int32) × (Nat → Int32) × (Nat → Int32))
  | 0, _, _, _, _ => none
  | n_10 + 1, x2_10, zowners_10, zranks_10, zways_10 =>
    if zsize_10 ≤ x2_10 then (some (zowners_10, zranks_10, zways_10)) else (chk (gi x2_10 12) (chk (gi x2_10 12) (chk (gi x2_10 12) (chk (gi x2_10 12) (chk (gi x2_10 12) (chk (gi x2_10 12) (f_X0_copyFrom_L10 N zsize_10 zp0_owners_10 zp0_ranks_10 zp0_ways_10 n_10 (x2_10 + 1) (upd zowners_10 (Int32.toNatClampNeg x2_10) (zp0_owners_10 (Int32.toNatClampNeg x2_10))) (upd zranks_10 (Int32.toNatClampNeg x2_10) (zp0_ranks_10 (Int32.toNatClampNeg x2_10))) (upd zways_10 (Int32.toNatClampNeg x2_10) (zp0_ways_10 (Int32.toNatClampNeg x2_10))))))))))
def f_X0_copyFrom (N : Nat) (zowners : Nat → Int32) (zranks : Nat → Int32) (zways : Nat → Int32) (zsize : Int32) (zp0_owners : Nat → Int32) (zp0_ranks : Nat → Int32) (zp0_ways : Nat → Int32) (zp0_size : Int32) : Option ((Nat → Int32) × (Nat → Int32) × (Nat → Int32) × Int32) :=
    Option.bind (f_X0_copyFrom_L10 N zp0_size zp0_owners zp0_ranks zp0_ways N 0 zowners zranks zways) (fun q9 => some (q9.1, q9.2.1, q9.2.2, zp0_size))
set_option maxHeartbeats 4000000 in
set_option maxRecDepth 100000 in
theorem c_X0_copyFrom (l : Launch) (D : va_G) (cI cC cH : ClassId) (a0 : Nat) (a_owners : Nat) (a_ranks : Nat) (a_ways : Nat) (a_p0 : Nat) (a_p0_owners : Nat) (a_p0_ranks : Nat) (a_p0_ways : Nat) (N : Nat) (zowners : Nat → Int32) (zranks : Nat → Int32) (zways : Nat → Int32) (zsize : Int32) (zp0_owners : Nat → Int32) (zp0_ranks : Nat → Int32) (zp0_ways : Nat → Int32) (zp0_size : Int32) (y : (Nat → Int32) × (Nat → Int32) × (Nat → Int32) × Int32) (h : f_X0_copyFrom N zowners zranks zways zsize zp0_owners zp0_ranks zp0_ways zp0_size = some y) : CTv l yX0_copyFrom cX0_copyFrom 3 none 0 0 D (tyL cI cC cH) [.ref a0, .ref a_p0] [(a0, .inr (0, [.ref a_owners, .ref a_ranks, .ref a_ways, .int zsize])), (a_owners, .inl (cI, 12, .inl zowners)), (a_ranks, .inl (cI, 12, .inl zranks)), (a_ways, .inl (cI, 12, .inl zways)), (a_p0, .inr (0, [.ref a_p0_owners, .ref a_p0_ranks, .ref a_p0_ways, .int zp0_size])), (a_p0_owners, .inl (cI, 12, .inl zp0_owners)), (a_p0_ranks, .inl (cI, 12, .inl zp0_ranks)), (a_p0_ways, .inl (cI, 12, .inl zp0_ways))] [(a0, .inr (0, [.ref a_owners, .ref a_ranks, .ref a_ways, .int y.2.2.2])), (a_owners, .inl (cI, 12, .inl y.1)), (a_ranks, .inl (cI, 12, .inl y.2.1)), (a_ways, .inl (cI, 12, .inl y.2.2.1)), (a_p0, .inr (0, [.ref a_p0_owners, .ref a_p0_ranks, .ref a_p0_ways, .int zp0_size])), (a_p0_owners, .inl (cI, 12, .inl zp0_owners)), (a_p0_ranks, .inl (cI, 12, .inl zp0_ranks)), (a_p0_ways, .inl (cI, 12, .inl zp0_ways))] := by
  unfold f_X0_copyFrom at h
  refine ctV (by decide) (Nat.le_of_ble_eq_true rfl) ?_
  intro p e s m args below meth c A Q ls F hret hP hD hS hl
  have hx := F.1
  have hb := F.2.1
  have hown : s.vm.findClass RX0 = some m.cls := F.2.2.2.1
  have hts := F.2.2.2.2.1
  have hN := F.2.2.2.2.2.1
  have hK := F.2.2.2.2.2.2.1
  have hl : lv_has ls 3 [(0, .ref a0), (1, .ref a_p0)] := hl
  refine lv_aload_n hx hb dX0_copyFrom_0 rfl (lv_at hl 0 rfl) ?_
  refine lv_aload_n hx hb dX0_copyFrom_1 rfl (lv_at hl 1 rfl) ?_
  refine va_get (D := D) (ci := 0) (v := .int zp0_size) (C := RX0) (T := TX0) (N := 4) hx hb hts inG0 hown hK hP 4 rfl rfl 3 (by decide) (hts _ wd1_30) (fun _ h9 => h9) rfl dX0_copyFrom_2 ?_
  refine va_put (D := D) (ci := 0) (v := .int zp0_size) (ty := .int) (C := RX0) (T := TX0) (N := 4) hx hb hts inG0 tyX0 tyX0_ok nmX0 hown hK hP hD hS 0 rfl rfl 3 (by decide) (hts _ wd1_30) (fun _ h9 => h9) rfl (by decide +kernel) rfl rfl (Nat.le_of_ble_eq_true rfl) dX0_copyFrom_5 (fun H locs hP hD hS => ?_)
  have hP : va_P D vwCl [(a0, .inr (0, [.ref a_owners, .ref a_ranks, .ref a_ways, .int zp0_size])), (a_owners, .inl (cI, 12, .inl zowners)), (a_ranks, .inl (cI, 12, .inl zranks)), (a_ways, .inl (cI, 12, .inl zways)), (a_p0, .inr (0, [.ref a_p0_owners, .ref a_p0_ranks, .ref a_p0_ways, .int zp0_size])), (a_p0_owners, .inl (cI, 12, .inl zp0_owners)), (a_p0_ranks, .inl (cI, 12, .inl zp0_ranks)), (a_p0_ways, .inl (cI, 12, .inl zp0_ways))] H := hP
  have hD : va_D A [(a0, .inr (0, [.ref a_owners, .ref a_ranks, .ref a_ways, .int zp0_size])), (a_owners, .inl (cI, 12, .inl zowners)), (a_ranks, .inl (cI, 12, .inl zranks)), (a_ways, .inl (cI, 12, .inl zways)), (a_p0, .inr (0, [.ref a_p0_owners, .ref a_p0_ranks, .ref a_p0_ways, .int zp0_size])), (a_p0_owners, .inl (cI, 12, .inl zp0_owners)), (a_p0_ranks, .inl (cI, 12, .inl zp0_ranks)), (a_p0_ways, .inl (cI, 12, .inl zp0_ways))] := hD
  refine lv_iconst (v := 0) hx hb dX0_copyFrom_8 (by decide) ?_
  refine lv_istore_n (lv' := [(2, .int 0), (0, .ref a0), (1, .ref a_p0)]) hx hb dX0_copyFrom_9 rfl hl (by decide) rfl (fun ls hl => ?_)
  have L_10 : ∀ (zsize_10 : Int32) (zp0_owners_10 : Nat → Int32) (zp0_ranks_10 : Nat → Int32) (zp0_ways_10 : Nat → Int32) (zp0_size_10 : Int32), ∀ (n_10 : Nat) (x2_10 : Int32) (zowners_10 : Nat → Int32) (zranks_10 : Nat → Int32) (zways_10 : Nat → Int32) (q8 : ((Nat → Int32) × (Nat → Int32) × (Nat → Int32))), f_X0_copyFrom_L10 N zsize_10 zp0_owners_10 zp0_ranks_10 zp0_ways_10 n_10 x2_10 zowners_10 zranks_10 zways_10 = some q8 → (∀ (ls : Array Slot) (H : Heap) (locs : List Loc), lv_has ls 3 [] → va_P D vwCl [(a0, .inr (0, [.ref a_owners, .ref a_ranks, .ref a_ways, .int zsize_10])), (a_owners, .inl (cI, 12, .inl q8.1)), (a_ranks, .inl (cI, 12, .inl q8.2.1)), (a_ways, .inl (cI, 12, .inl q8.2.2)), (a_p0, .inr (0, [.ref a_p0_owners, .ref a_p0_ranks, .ref a_p0_ways, .int zp0_size_10])), (a_p0_owners, .inl (cI, 12, .inl zp0_owners_10)), (a_p0_ranks, .inl (cI, 12, .inl zp0_ranks_10)), (a_p0_ways, .inl (cI, 12, .inl zp0_ways_10))] H → va_D A [(a0, .inr (0, [.ref a_owners, .ref a_ranks, .ref a_ways, .int zsize_10])), (a_owners, .inl (cI, 12, .inl q8.1)), (a_ranks, .inl (cI, 12, .inl q8.2.1)), (a_ways, .inl (cI, 12, .inl q8.2.2)), (a_p0, .inr (0, [.ref a_p0_owners, .ref a_p0_ranks, .ref a_p0_ways, .int zp0_size_10])), (a_p0_owners, .inl (cI, 12, .inl zp0_owners_10)), (a_p0_ranks, .inl (cI, 12, .inl zp0_ranks_10)), (a_p0_ways, .inl (cI, 12, .inl zp0_ways_10))] → va_S A s.heap H locs → W p l e (rmm 0 0) s m args below meth c H locs 0 0 Q (F0 m 60 ls [])) → ∀ (ls : Array Slot) (H : Heap) (locs : List Loc), lv_has ls 3 [(0, .ref a0), (1, .ref a_p0), (2, .int x2_10)] → va_P D vwCl [(a0, .inr (0, [.ref a_owners, .ref a_ranks, .ref a_ways, .int zsize_10])), (a_owners, .inl (cI, 12, .inl zowners_10)), (a_ranks, .inl (cI, 12, .inl zranks_10)), (a_ways, .inl (cI, 12, .inl zways_10)), (a_p0, .inr (0, [.ref a_p0_owners, .ref a_p0_ranks, .ref a_p0_ways, .int zp0_size_10])), (a_p0_owners, .inl (cI, 12, .inl zp0_owners_10)), (a_p0_ranks, .inl (cI, 12, .inl zp0_ranks_10)), (a_p0_ways, .inl (cI, 12, .inl zp0_ways_10))] H → va_D A [(a0, .inr (0, [.ref a_owners, .ref a_ranks, .ref a_ways, .int zsize_10])), (a_owners, .inl (cI, 12, .inl zowners_10)), (a_ranks, .inl (cI, 12, .inl zranks_10)), (a_ways, .inl (cI, 12, .inl zways_10)), (a_p0, .inr (0, [.ref a_p0_owners, .ref a_p0_ranks, .ref a_p0_ways, .int zp0_size_10])), (a_p0_owners, .inl (cI, 12, .inl zp0_owners_10)), (a_p0_ranks, .inl (cI, 12, .inl zp0_ranks_10)), (a_p0_ways, .inl (cI, 12, .inl zp0_ways_10))] → va_S A s.heap H locs → W p l e (rmm 0 0) s m args below meth c H locs 0 0 Q (F0 m 10 ls []) := by
    intro zsize_10 zp0_owners_10 zp0_ranks_10 zp0_ways_10 zp0_size_10 n_10
    induction n_10 with
    | zero => intro x2_10 zowners_10 zranks_10 zways_10 q8 h; exact no_s h
    | succ n_10 ih_10 =>
      intro x2_10 zowners_10 zranks_10 zways_10 q8 h J_10 ls H locs hl hP hD hS
      rw [f_X0_copyFrom_L10] at h
      refine lv_iload_n hx hb dX0_copyFrom_10 rfl (lv_at hl 2 rfl) ?_
      refine lv_aload_n hx hb dX0_copyFrom_11 rfl (lv_at hl 0 rfl) ?_
      refine va_get (D := D) (ci := 0) (v := .int zsize_10) (C := RX0) (T := TX0) (N := 4) hx hb hts inG0 hown hK hP 0 rfl rfl 3 (by decide) (hts _ wd1_30) (fun _ h9 => h9) rfl dX0_copyFrom_12 ?_
      refine lv_icmp_ge (tgt := 60) hx hb dX0_copyFrom_15 (by decide) (fun c1 => ?_) (fun c1 => ?_)
      · have h := itT h c1
        obtain rfl := Option.some.inj h
        exact J_10 _ _ _ (lv_sub hl [] rfl) hP hD hS
      · have h := itF h c1
        refine lv_aload_n hx hb dX0_copyFrom_18 rfl (lv_at hl 0 rfl) ?_
        refine va_get (D := D) (ci := 0) (v := .ref a_owners) (C := RX0) (T := TX0) (N := 4) hx hb hts inG0 hown hK hP 0 rfl rfl 0 (by decide) (hts _ wd1_21) (fun _ h9 => h9) rfl dX0_copyFrom_19 ?_
        refine lv_iload_n hx hb dX0_copyFrom_22 rfl (lv_at hl 2 rfl) ?_
        refine lv_aload_n hx hb dX0_copyFrom_23 rfl (lv_at hl 1 rfl) ?_
        refine va_get (D := D) (ci := 0) (v := .ref a_p0_owners) (C := RX0) (T := TX0) (N := 4) hx hb hts inG0 hown hK hP 4 rfl rfl 0 (by decide) (hts _ wd1_21) (fun _ h9 => h9) rfl dX0_copyFrom_24 ?_
        refine lv_iload_n hx hb dX0_copyFrom_27 rfl (lv_at hl 2 rfl) ?_
        obtain ⟨g2, h⟩ := chk_s h
        refine va_iald hx hb hK hP 5 0 rfl rfl (gi_in g2) dX0_copyFrom_28 ?_
        obtain ⟨g3, h⟩ := chk_s h
        refine va_iast hx hb hK hP hD hS 1 0 rfl rfl (gi_in g3) dX0_copyFrom_29 (fun H locs hP hD hS => ?_)
        have hP : va_P D vwCl [(a0, .inr (0, [.ref a_owners, .ref a_ranks, .ref a_ways, .int zsize_10])), (a_owners, .inl (cI, 12, .inl (upd zowners_10 (Int32.toNatClampNeg x2_10) (zp0_owners_10 (Int32.toNatClampNeg x2_10))))), (a_ranks, .inl (cI, 12, .inl zranks_10)), (a_ways, .inl (cI, 12, .inl zways_10)), (a_p0, .inr (0, [.ref a_p0_owners, .ref a_p0_ranks, .ref a_p0_ways, .int zp0_size_10])), (a_p0_owners, .inl (cI, 12, .inl zp0_owners_10)), (a_p0_ranks, .inl (cI, 12, .inl zp0_ranks_10)), (a_p0_ways, .inl (cI, 12, .inl zp0_ways_10))] H := hP
        have hD : va_D A [(a0, .inr (0, [.ref a_owners, .ref a_ranks, .ref a_ways, .int zsize_10])), (a_owners, .inl (cI, 12, .inl (upd zowners_10 (Int32.toNatClampNeg x2_10) (zp0_owners_10 (Int32.toNatClampNeg x2_10))))), (a_ranks, .inl (cI, 12, .inl zranks_10)), (a_ways, .inl (cI, 12, .inl zways_10)), (a_p0, .inr (0, [.ref a_p0_owners, .ref a_p0_ranks, .ref a_p0_ways, .int zp0_size_10])), (a_p0_owners, .inl (cI, 12, .inl zp0_owners_10)), (a_p0_ranks, .inl (cI, 12, .inl zp0_ranks_10)), (a_p0_ways, .inl (cI, 12, .inl zp0_ways_10))] := hD
        refine lv_aload_n hx hb dX0_copyFrom_30 rfl (lv_at hl 0 rfl) ?_
        refine va_get (D := D) (ci := 0) (v := .ref a_ranks) (C := RX0) (T := TX0) (N := 4) hx hb hts inG0 hown hK hP 0 rfl rfl 1 (by decide) (hts _ wd1_24) (fun _ h9 => h9) rfl dX0_copyFrom_31 ?_
        refine lv_iload_n hx hb dX0_copyFrom_34 rfl (lv_at hl 2 rfl) ?_
        refine lv_aload_n hx hb dX0_copyFrom_35 rfl (lv_at hl 1 rfl) ?_
        refine va_get (D := D) (ci := 0) (v := .ref a_p0_ranks) (C := RX0) (T := TX0) (N := 4) hx hb hts inG0 hown hK hP 4 rfl rfl 1 (by decide) (hts _ wd1_24) (fun _ h9 => h9) rfl dX0_copyFrom_36 ?_
        refine lv_iload_n hx hb dX0_copyFrom_39 rfl (lv_at hl 2 rfl) ?_
        obtain ⟨g4, h⟩ := chk_s h
        refine va_iald hx hb hK hP 6 0 rfl rfl (gi_in g4) dX0_copyFrom_40 ?_
        obtain ⟨g5, h⟩ := chk_s h
        refine va_iast hx hb hK hP hD hS 2 0 rfl rfl (gi_in g5) dX0_copyFrom_41 (fun H locs hP hD hS => ?_)
        have hP : va_P D vwCl [(a0, .inr (0, [.ref a_owners, .ref a_ranks, .ref a_ways, .int zsize_10])), (a_owners, .inl (cI, 12, .inl (upd zowners_10 (Int32.toNatClampNeg x2_10) (zp0_owners_10 (Int32.toNatClampNeg x2_10))))), (a_ranks, .inl (cI, 12, .inl (upd zranks_10 (Int32.toNatClampNeg x2_10) (zp0_ranks_10 (Int32.toNatClampNeg x2_10))))), (a_ways, .inl (cI, 12, .inl zways_10)), (a_p0, .inr (0, [.ref a_p0_owners, .ref a_p0_ranks, .ref a_p0_ways, .int zp0_size_10])), (a_p0_owners, .inl (cI, 12, .inl zp0_owners_10)), (a_p0_ranks, .inl (cI, 12, .inl zp0_ranks_10)), (a_p0_ways, .inl (cI, 12, .inl zp0_ways_10))] H := hP
        have hD : va_D A [(a0, .inr (0, [.ref a_owners, .ref a_ranks, .ref a_ways, .int zsize_10])), (a_owners, .inl (cI, 12, .inl (upd zowners_10 (Int32.toNatClampNeg x2_10) (zp0_owners_10 (Int32.toNatClampNeg x2_10))))), (a_ranks, .inl (cI, 12, .inl (upd zranks_10 (Int32.toNatClampNeg x2_10) (zp0_ranks_10 (Int32.toNatClampNeg x2_10))))), (a_ways, .inl (cI, 12, .inl zways_10)), (a_p0, .inr (0, [.ref a_p0_owners, .ref a_p0_ranks, .ref a_p0_ways, .int zp0_size_10])), (a_p0_owners, .inl (cI, 12, .inl zp0_owners_10)), (a_p0_ranks, .inl (cI, 12, .inl zp0_ranks_10)), (a_p0_ways, .inl (cI, 12, .inl zp0_ways_10))] := hD
        refine lv_aload_n hx hb dX0_copyFrom_42 rfl (lv_at hl 0 rfl) ?_
        refine va_get (D := D) (ci := 0) (v := .ref a_ways) (C := RX0) (T := TX0) (N := 4) hx hb hts inG0 hown hK hP 0 rfl rfl 2 (by decide) (hts _ wd1_26) (fun _ h9 => h9) rfl dX0_copyFrom_43 ?_
        refine lv_iload_n hx hb dX0_copyFrom_46 rfl (lv_at hl 2 rfl) ?_
        refine lv_aload_n hx hb dX0_copyFrom_47 rfl (lv_at hl 1 rfl) ?_
        refine va_get (D := D) (ci := 0) (v := .ref a_p0_ways) (C := RX0) (T := TX0) (N := 4) hx hb hts inG0 hown hK hP 4 rfl rfl 2 (by decide) (hts _ wd1_26) (fun _ h9 => h9) rfl dX0_copyFrom_48 ?_
        refine lv_iload_n hx hb dX0_copyFrom_51 rfl (lv_at hl 2 rfl) ?_
        obtain ⟨g6, h⟩ := chk_s h
        refine va_iald hx hb hK hP 7 0 rfl rfl (gi_in g6) dX0_copyFrom_52 ?_
        obtain ⟨g7, h⟩ := chk_s h
        refine va_iast hx hb hK hP hD hS 3 0 rfl rfl (gi_in g7) dX0_copyFrom_53 (fun H locs hP hD hS => ?_)
        have hP : va_P D vwCl [(a0, .inr (0, [.ref a_owners, .ref a_ranks, .ref a_ways, .int zsize_10])), (a_owners, .inl (cI, 12, .inl (upd zowners_10 (Int32.toNatClampNeg x2_10) (zp0_owners_10 (Int32.toNatClampNeg x2_10))))), (a_ranks, .inl (cI, 12, .inl (upd zranks_10 (Int32.toNatClampNeg x2_10) (zp0_ranks_10 (Int32.toNatClampNeg x2_10))))), (a_ways, .inl (cI, 12, .inl (upd zways_10 (Int32.toNatClampNeg x2_10) (zp0_ways_10 (Int32.toNatClampNeg x2_10))))), (a_p0, .inr (0, [.ref a_p0_owners, .ref a_p0_ranks, .ref a_p0_ways, .int zp0_size_10])), (a_p0_owners, .inl (cI, 12, .inl zp0_owners_10)), (a_p0_ranks, .inl (cI, 12, .inl zp0_ranks_10)), (a_p0_ways, .inl (cI, 12, .inl zp0_ways_10))] H := hP
        have hD : va_D A [(a0, .inr (0, [.ref a_owners, .ref a_ranks, .ref a_ways, .int zsize_10])), (a_owners, .inl (cI, 12, .inl (upd zowners_10 (Int32.toNatClampNeg x2_10) (zp0_owners_10 (Int32.toNatClampNeg x2_10))))), (a_ranks, .inl (cI, 12, .inl (upd zranks_10 (Int32.toNatClampNeg x2_10) (zp0_ranks_10 (Int32.toNatClampNeg x2_10))))), (a_ways, .inl (cI, 12, .inl (upd zways_10 (Int32.toNatClampNeg x2_10) (zp0_ways_10 (Int32.toNatClampNeg x2_10))))), (a_p0, .inr (0, [.ref a_p0_owners, .ref a_p0_ranks, .ref a_p0_ways, .int zp0_size_10])), (a_p0_owners, .inl (cI, 12, .inl zp0_owners_10)), (a_p0_ranks, .inl (cI, 12, .inl zp0_ranks_10)), (a_p0_ways, .inl (cI, 12, .inl zp0_ways_10))] := hD
        refine lv_iinc (v := x2_10 + 1) (lv' := [(2, .int (x2_10 + 1)), (0, .ref a0), (1, .ref a_p0)]) hx hb dX0_copyFrom_54 hl (k := 2) rfl rfl (by decide) rfl (fun ls hl => ?_)
        refine lv_goto (tgt := 10) hx hb dX0_copyFrom_57 (by decide) ?_
        exact ih_10 (x2_10 + 1) (upd zowners_10 (Int32.toNatClampNeg x2_10) (zp0_owners_10 (Int32.toNatClampNeg x2_10))) (upd zranks_10 (Int32.toNatClampNeg x2_10) (zp0_ranks_10 (Int32.toNatClampNeg x2_10))) (upd zways_10 (Int32.toNatClampNeg x2_10) (zp0_ways_10 (Int32.toNatClampNeg x2_10))) _ h J_10 _ _ _ (lv_sub hl [1, 2, 0] rfl) hP hD hS
  obtain ⟨q9, hb10, h⟩ := bd h
  refine L_10 zp0_size zp0_owners zp0_ranks zp0_ways zp0_size N 0 zowners zranks zways q9 hb10 ?_ _ _ _ (lv_sub hl [1, 2, 0] rfl) hP hD hS
  intro ls H locs hl hP hD hS
  obtain rfl := Option.some.inj h
  exact hret _ _ _ _ hP hD hS dX0_copyFrom_60
