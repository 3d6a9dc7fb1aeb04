/-! THE CLAIM OUT OF ONE WALK OF THE LAW'S BODY. Your part is whole_start (and what it stands on); all else here is the same for every law, but numbers. -/
def lw_P (b : Addr) (xs : List Int32) (args : Array Value) (s : State) : Prop := args = #[.ref b] ∧ s.IntsAt b xs ∧ xs.length ≤ 2048 ∧ (Jvm.Cond.and given_1 narrow_1).before args s = true
def lw_Q (_ : Array Value) (s : State) (o : Outcome) (t : State) : Prop := o = .returned (some (.int 1)) ∧ Framed s o t [] 600000 7302250
def lw_Z (below : List Frame) (a : Array Value) (s : State) : State → Prop := fun t => ∃ o, t.status = .running ∧ Ended t below o ∧ lw_Q a s o t
/-- the law's own end, with 1 on the stack, nothing written that was there before, its room as the claim has it -/
theorem lw_ret {p : Program} {l : Launch} {e : Env} {s : State} {m : MethodId} {below : List Frame} {meth : Method} {c : Code} {b : Nat} (hx : p.tables.exec = Jvm.exec) (hb : c.code = code) (hr : meth.sig.returnType = ret) (hlocks : meth.locks = false) {pc : Nat} {H : Heap} {ls : Array Slot} (hdg : decode code pc = .ok (.ireturn, 1)) : W p l e room_1 s m #[Value.ref b] below meth c H [] 600000 7302250 (lw_Z below #[Value.ref b] s) (F0 m pc ls [.int 1]) := by
  intro T hT X
  obtain ⟨fs, hret, hrun, hended, hW, hframe⟩ := X.leave (v := some (.int 1)) (hlocks := hlocks) (fun h => by rw [hr] at h; cases h)
  have hmeth' : T.vm.method? m = some meth := X.method'
  refine ⟨T.setFrames fs, ?_, .returned (some (.int 1)), hrun, hended, rfl, ⟨_, rfl⟩, hW, hframe⟩
  jvm_step X.here [X.here.top, hx, hb, hdg, hmeth', hr, ret, narrow_b1]
  (try refine ⟨rfl, ?_⟩); (try refine ⟨rfl, ?_⟩)
  first | (intro acts; rw [hret _ acts rfl rfl rfl]) | rw [hret _ _ rfl rfl rfl]
  exact Steps.refl _
/-- what holds at the law's entry: the machine, the code, the tables' words (any of lw_tbl by 'hts w (by decide +kernel)'), the script of L ints xs at the cell b, what the Statement gives of the start (any of its parts by flat_of_before) -/
def lw_At (p : Program) (s : State) (m : MethodId) (meth : Method) (c : Code) (b L : Nat) (xs : Nat → Int32) : Prop :=
  p.tables.exec = Jvm.exec ∧ c.code = code ∧ meth.sig.returnType = ret ∧ c.maxLocals = 4 ∧ s.vm.findClass R_law = some m.cls ∧ (∀ w ∈ lw_tbl, w.before #[Value.ref b] s = true) ∧ va_X b L xs s s.heap ∧ b < s.heap.size ∧ meth.locks = false ∧ (Jvm.Cond.and given_1 narrow_1).before #[Value.ref b] s = true
-- ===== YOUR PART BEGINS =====
theorem nI4 (i : Nat) : nI i + Int32.ofInt 4 = nI (i + 4) := by
  rw [show Int32.ofInt 4 = nI 4 from by decide]
  exact nI_add i 4
theorem law_in {i L k : Nat} (h : i + 4 ≤ L) (hL : L ≤ 2048) (hk : k < 4) {z : Int32} (hz : z = nI k) : vp_in (nI i + z) L := by
  rw [hz, nI_add]
  exact vp_in_nI (by omega) (by omega)
theorem law_go {i L : Nat} (hL : L ≤ 2048) (hi : i ≤ 2052) (h : ¬ Int32.ofNat L - 4 < nI i) : i + 4 ≤ L := by
  have h1 : (nI L - nI 4).toInt = (L : Int) - (4 : Nat) := pk_sub_toInt (by omega) (by omega)
  have h2 : Int32.ofNat L - 4 = nI L - nI 4 := rfl
  rw [h2, Int32.lt_iff_toInt_lt, h1, nI_toInt (by omega)] at h
  omega
set_option maxHeartbeats 8000000 in
set_option maxRecDepth 100000 in
theorem law_loop {p : Program} {e : Env} {s : State} {m : MethodId} {below : List Frame} {meth : Method} {c : Code} (l : Launch) {b L : Nat} {xs : Nat → Int32} (hL : L ≤ 2048) (C0 : lw_At p s m meth c b L xs) (D : va_G) (cI cC cH : ClassId) (N : Nat) (hN : 13000000 ≤ N) (a1 a2 : Nat) (ad am : Nat → Nat) (F : FX p m c code 4 s #[Value.ref b] R_law D (tyL cI cC cH) (fun q : Nat => s.heap.size ≤ q)) :
    ∀ (n i : Nat), L + 4 - i < n → i ≤ 2052 → ∀ (S : XS) (M : MS), Rel S M → ∀ (ls : Array Slot) (H : Heap) (locs : List Loc), lv_has ls 4 [(0, .ref b), (1, .ref a1), (2, .ref a2), (3, .int (nI i))] → va_P D vwCl (wX cI cC cH a1 ad (S.1) (S.2.1) (S.2.2) ++ wM cI a2 am (M.1) (M.2)) H → va_D (fun q : Nat => s.heap.size ≤ q) (wX cI cC cH a1 ad (S.1) (S.2.1) (S.2.2) ++ wM cI a2 am (M.1) (M.2)) → va_S (fun q : Nat => s.heap.size ≤ q) s.heap H locs → W p l e room_1 s m #[Value.ref b] below meth c H locs 52 1191 (lw_Z below #[Value.ref b] s) (F0 m 18 ls []) := by
  obtain ⟨hx, hb, hr, hml, hown, hts, hX, hbl, hlocks, hgv⟩ := id C0
  have hbA : ¬ (fun q : Nat => s.heap.size ≤ q) b := Nat.not_le.mpr hbl
  intro n
  induction n with
  | zero => intro i h; exact absurd h (Nat.not_lt_zero _)
  | succ n ih =>
    intro i hn hi S M hrel ls H locs hl hP hD hS
    refine lv_iload_n hx hb dL_law_18 rfl (lv_at hl 3 rfl) ?_
    refine lv_aload_n hx hb dL_law_19 rfl (lv_at hl 0 rfl) ?_
    refine va_slen hx hb hX hbl hbA hS dL_law_20 ?_
    refine lv_iconst (v := 4) hx hb dL_law_21 (by decide) ?_
    refine lv_isub hx hb dL_law_22 ?_
    refine lv_icmp_gt (tgt := 738) hx hb dL_law_23 (by decide) (fun c1 => ?_) (fun c1 => ?_)
    · refine lv_iconst (v := 1) hx hb dL_law_738 (by decide) ?_
      refine va_forget (fun q hq => hS.2.2 q hq) ?_
      refine W.widen (k := 600000) (n := 7302250) (Nat.le_of_ble_eq_true rfl) (Nat.le_of_ble_eq_true rfl) ?_
      exact lw_ret hx hb hr hlocks dL_law_739
    · have hg := law_go hL hi c1
      have v0 : vp_in (nI i) L := vp_in_nI (by omega) (by omega)
      have v1 : vp_in (nI i + 1) L := law_in hg hL (k := 1) (by decide) rfl
      have v2 : vp_in (nI i + 2) L := law_in hg hL (k := 2) (by decide) rfl
      have v3 : vp_in (nI i + 3) L := law_in hg hL (k := 3) (by decide) rfl
      refine lv_aload_n hx hb dL_law_26 rfl (lv_at hl 0 rfl) ?_
      refine lv_iload_n hx hb dL_law_27 rfl (lv_at hl 3 rfl) ?_
      refine va_sld hx hb hX hbl hbA hS v0 dL_law_28 ?_
      refine lv_bipush (v := 31) hx hb dL_law_29 (by decide) ?_
      refine lv_iand hx hb dL_law_31 ?_
      by_cases c2 : (xs (Int32.toNatClampNeg (nI i)) &&& 31) = 0
      · refine lv_tableIn (tgt := 136) hx hb dL_law_32 (by rw [c2]; decide) (by rw [c2]; decide) (by rw [c2]; rfl) (by decide) ?_
        refine lv_aload_n hx hb dL_law_136 rfl (lv_at hl 1 rfl) ?_
        refine lv_aload_n hx hb dL_law_137 rfl (lv_at hl 0 rfl) ?_
        refine lv_iload_n hx hb dL_law_138 rfl (lv_at hl 3 rfl) ?_
        refine lv_iconst (v := 1) hx hb dL_law_139 (by decide) ?_
        refine lv_iadd hx hb dL_law_140 ?_
        refine va_sld hx hb hX hbl hbA hS v1 dL_law_141 ?_
        refine lv_aload_n hx hb dL_law_142 rfl (lv_at hl 0 rfl) ?_
        refine lv_iload_n hx hb dL_law_143 rfl (lv_at hl 3 rfl) ?_
        refine lv_iconst (v := 2) hx hb dL_law_144 (by decide) ?_
        refine lv_iadd hx hb dL_law_145 ?_
        refine va_sld hx hb hX hbl hbA hS v2 dL_law_146 ?_
        obtain ⟨r, S2, M2, hq1, hq2, hr2⟩ := step_add hN (xs (Int32.toNatClampNeg (nI i + 1))) (xs (Int32.toNatClampNeg (nI i + 2))) hrel
        refine lx_add l D cI cC cH a1 a2 ad am N (xs (Int32.toNatClampNeg (nI i + 1))) (xs (Int32.toNatClampNeg (nI i + 2))) S M (r, S2) [] hq1 F hP hD hS hl (Nat.le_of_ble_eq_true rfl) dL_law_147 (fun H locs hP hD hS => ?_)
        refine lv_aload_n hx hb dL_law_150 rfl (lv_at hl 2 rfl) ?_
        refine lv_aload_n hx hb dL_law_151 rfl (lv_at hl 0 rfl) ?_
        refine lv_iload_n hx hb dL_law_152 rfl (lv_at hl 3 rfl) ?_
        refine lv_iconst (v := 1) hx hb dL_law_153 (by decide) ?_
        refine lv_iadd hx hb dL_law_154 ?_
        refine va_sld hx hb hX hbl hbA hS v1 dL_law_155 ?_
        refine lv_aload_n hx hb dL_law_156 rfl (lv_at hl 0 rfl) ?_
        refine lv_iload_n hx hb dL_law_157 rfl (lv_at hl 3 rfl) ?_
        refine lv_iconst (v := 2) hx hb dL_law_158 (by decide) ?_
        refine lv_iadd hx hb dL_law_159 ?_
        refine va_sld hx hb hX hbl hbA hS v2 dL_law_160 ?_
        refine lm_add l D cI cC cH a1 a2 ad am N (xs (Int32.toNatClampNeg (nI i + 1))) (xs (Int32.toNatClampNeg (nI i + 2))) S2 M (r, M2) [.int r] hq2 F hP hD hS hl (Nat.le_of_ble_eq_true rfl) dL_law_161 (fun H locs hP hD hS => ?_)
        refine lv_icmp_eq (tgt := 732) hx hb dL_law_164 (by decide) (fun c9 => ?_) (fun c9 => absurd rfl c9)
        refine lv_iinc (v := nI (i + 4)) (lv' := [(3, .int (nI (i + 4))), (0, .ref b), (1, .ref a1), (2, .ref a2)]) hx hb dL_law_732 hl (k := 3) rfl (nI4 i) (by decide) rfl (fun ls hl => ?_)
        refine lv_goto (tgt := 18) hx hb dL_law_735 (by decide) ?_
        exact ih (i + 4) (by omega) (by omega) S2 M2 hr2 _ _ _ (lv_sub hl [1, 2, 3, 0] rfl) hP hD hS
      · by_cases c3 : (xs (Int32.toNatClampNeg (nI i)) &&& 31) = 1
        · refine lv_tableIn (tgt := 169) hx hb dL_law_32 (by rw [c3]; decide) (by rw [c3]; decide) (by rw [c3]; rfl) (by decide) ?_
          refine lv_aload_n hx hb dL_law_169 rfl (lv_at hl 1 rfl) ?_
          refine lv_aload_n hx hb dL_law_170 rfl (lv_at hl 0 rfl) ?_
          refine lv_iload_n hx hb dL_law_171 rfl (lv_at hl 3 rfl) ?_
          refine lv_iconst (v := 1) hx hb dL_law_172 (by decide) ?_
          refine lv_iadd hx hb dL_law_173 ?_
          refine va_sld hx hb hX hbl hbA hS v1 dL_law_174 ?_
          refine lv_aload_n hx hb dL_law_175 rfl (lv_at hl 0 rfl) ?_
          refine lv_iload_n hx hb dL_law_176 rfl (lv_at hl 3 rfl) ?_
          refine lv_iconst (v := 2) hx hb dL_law_177 (by decide) ?_
          refine lv_iadd hx hb dL_law_178 ?_
          refine va_sld hx hb hX hbl hbA hS v2 dL_law_179 ?_
          obtain ⟨r, S2, M2, hq1, hq2, hr2⟩ := step_own hN (xs (Int32.toNatClampNeg (nI i + 1))) (xs (Int32.toNatClampNeg (nI i + 2))) hrel
          refine lx_own l D cI cC cH a1 a2 ad am N (xs (Int32.toNatClampNeg (nI i + 1))) (xs (Int32.toNatClampNeg (nI i + 2))) S M (r, S2) [] hq1 F hP hD hS hl (Nat.le_of_ble_eq_true rfl) dL_law_180 (fun H locs hP hD hS => ?_)
          refine lv_aload_n hx hb dL_law_183 rfl (lv_at hl 2 rfl) ?_
          refine lv_aload_n hx hb dL_law_184 rfl (lv_at hl 0 rfl) ?_
          refine lv_iload_n hx hb dL_law_185 rfl (lv_at hl 3 rfl) ?_
          refine lv_iconst (v := 1) hx hb dL_law_186 (by decide) ?_
          refine lv_iadd hx hb dL_law_187 ?_
          refine va_sld hx hb hX hbl hbA hS v1 dL_law_188 ?_
          refine lv_aload_n hx hb dL_law_189 rfl (lv_at hl 0 rfl) ?_
          refine lv_iload_n hx hb dL_law_190 rfl (lv_at hl 3 rfl) ?_
          refine lv_iconst (v := 2) hx hb dL_law_191 (by decide) ?_
          refine lv_iadd hx hb dL_law_192 ?_
          refine va_sld hx hb hX hbl hbA hS v2 dL_law_193 ?_
          refine lm_own l D cI cC cH a1 a2 ad am N (xs (Int32.toNatClampNeg (nI i + 1))) (xs (Int32.toNatClampNeg (nI i + 2))) S2 M (r, M2) [.int r] hq2 F hP hD hS hl (Nat.le_of_ble_eq_true rfl) dL_law_194 (fun H locs hP hD hS => ?_)
          refine lv_icmp_eq (tgt := 732) hx hb dL_law_197 (by decide) (fun c9 => ?_) (fun c9 => absurd rfl c9)
          refine lv_iinc (v := nI (i + 4)) (lv' := [(3, .int (nI (i + 4))), (0, .ref b), (1, .ref a1), (2, .ref a2)]) hx hb dL_law_732 hl (k := 3) rfl (nI4 i) (by decide) rfl (fun ls hl => ?_)
          refine lv_goto (tgt := 18) hx hb dL_law_735 (by decide) ?_
          exact ih (i + 4) (by omega) (by omega) S2 M2 hr2 _ _ _ (lv_sub hl [1, 2, 3, 0] rfl) hP hD hS
        · by_cases c4 : (xs (Int32.toNatClampNeg (nI i)) &&& 31) = 2
          · refine lv_tableIn (tgt := 202) hx hb dL_law_32 (by rw [c4]; decide) (by rw [c4]; decide) (by rw [c4]; rfl) (by decide) ?_
            refine lv_aload_n hx hb dL_law_202 rfl (lv_at hl 1 rfl) ?_
            refine lv_aload_n hx hb dL_law_203 rfl (lv_at hl 0 rfl) ?_
            refine lv_iload_n hx hb dL_law_204 rfl (lv_at hl 3 rfl) ?_
            refine lv_iconst (v := 1) hx hb dL_law_205 (by decide) ?_
            refine lv_iadd hx hb dL_law_206 ?_
            refine va_sld hx hb hX hbl hbA hS v1 dL_law_207 ?_
            refine lv_aload_n hx hb dL_law_208 rfl (lv_at hl 0 rfl) ?_
            refine lv_iload_n hx hb dL_law_209 rfl (lv_at hl 3 rfl) ?_
            refine lv_iconst (v := 2) hx hb dL_law_210 (by decide) ?_
            refine lv_iadd hx hb dL_law_211 ?_
            refine va_sld hx hb hX hbl hbA hS v2 dL_law_212 ?_
            obtain ⟨r, S2, M2, hq1, hq2, hr2⟩ := step_rank hN (xs (Int32.toNatClampNeg (nI i + 1))) (xs (Int32.toNatClampNeg (nI i + 2))) hrel
            refine lx_rank l D cI cC cH a1 a2 ad am N (xs (Int32.toNatClampNeg (nI i + 1))) (xs (Int32.toNatClampNeg (nI i + 2))) S M (r, S2) [] hq1 F hP hD hS hl (Nat.le_of_ble_eq_true rfl) dL_law_213 (fun H locs hP hD hS => ?_)
            refine lv_aload_n hx hb dL_law_216 rfl (lv_at hl 2 rfl) ?_
            refine lv_aload_n hx hb dL_law_217 rfl (lv_at hl 0 rfl) ?_
            refine lv_iload_n hx hb dL_law_218 rfl (lv_at hl 3 rfl) ?_
            refine lv_iconst (v := 1) hx hb dL_law_219 (by decide) ?_
            refine lv_iadd hx hb dL_law_220 ?_
            refine va_sld hx hb hX hbl hbA hS v1 dL_law_221 ?_
            refine lv_aload_n hx hb dL_law_222 rfl (lv_at hl 0 rfl) ?_
            refine lv_iload_n hx hb dL_law_223 rfl (lv_at hl 3 rfl) ?_
            refine lv_iconst (v := 2) hx hb dL_law_224 (by decide) ?_
            refine lv_iadd hx hb dL_law_225 ?_
            refine va_sld hx hb hX hbl hbA hS v2 dL_law_226 ?_
            refine lm_rank l D cI cC cH a1 a2 ad am N (xs (Int32.toNatClampNeg (nI i + 1))) (xs (Int32.toNatClampNeg (nI i + 2))) S2 M (r, M2) [.int r] hq2 F hP hD hS hl (Nat.le_of_ble_eq_true rfl) dL_law_227 (fun H locs hP hD hS => ?_)
            refine lv_icmp_eq (tgt := 732) hx hb dL_law_230 (by decide) (fun c9 => ?_) (fun c9 => absurd rfl c9)
            refine lv_iinc (v := nI (i + 4)) (lv' := [(3, .int (nI (i + 4))), (0, .ref b), (1, .ref a1), (2, .ref a2)]) hx hb dL_law_732 hl (k := 3) rfl (nI4 i) (by decide) rfl (fun ls hl => ?_)
            refine lv_goto (tgt := 18) hx hb dL_law_735 (by decide) ?_
            exact ih (i + 4) (by omega) (by omega) S2 M2 hr2 _ _ _ (lv_sub hl [1, 2, 3, 0] rfl) hP hD hS
          · by_cases c5 : (xs (Int32.toNatClampNeg (nI i)) &&& 31) = 3
            · refine lv_tableIn (tgt := 235) hx hb dL_law_32 (by rw [c5]; decide) (by rw [c5]; decide) (by rw [c5]; rfl) (by decide) ?_
              refine lv_aload_n hx hb dL_law_235 rfl (lv_at hl 1 rfl) ?_
              refine lv_aload_n hx hb dL_law_236 rfl (lv_at hl 0 rfl) ?_
              refine lv_iload_n hx hb dL_law_237 rfl (lv_at hl 3 rfl) ?_
              refine lv_iconst (v := 1) hx hb dL_law_238 (by decide) ?_
              refine lv_iadd hx hb dL_law_239 ?_
              refine va_sld hx hb hX hbl hbA hS v1 dL_law_240 ?_
              refine lv_aload_n hx hb dL_law_241 rfl (lv_at hl 0 rfl) ?_
              refine lv_iload_n hx hb dL_law_242 rfl (lv_at hl 3 rfl) ?_
              refine lv_iconst (v := 2) hx hb dL_law_243 (by decide) ?_
              refine lv_iadd hx hb dL_law_244 ?_
              refine va_sld hx hb hX hbl hbA hS v2 dL_law_245 ?_
              refine lv_aload_n hx hb dL_law_246 rfl (lv_at hl 0 rfl) ?_
              refine lv_iload_n hx hb dL_law_247 rfl (lv_at hl 3 rfl) ?_
              refine lv_iconst (v := 3) hx hb dL_law_248 (by decide) ?_
              refine lv_iadd hx hb dL_law_249 ?_
              refine va_sld hx hb hX hbl hbA hS v3 dL_law_250 ?_
              obtain ⟨r, S2, M2, hq1, hq2, hr2⟩ := step_way hN (xs (Int32.toNatClampNeg (nI i + 1))) (xs (Int32.toNatClampNeg (nI i + 2))) (xs (Int32.toNatClampNeg (nI i + 3))) hrel
              refine lx_way l D cI cC cH a1 a2 ad am N (xs (Int32.toNatClampNeg (nI i + 1))) (xs (Int32.toNatClampNeg (nI i + 2))) (xs (Int32.toNatClampNeg (nI i + 3))) S M (r, S2) [] hq1 F hP hD hS hl (Nat.le_of_ble_eq_true rfl) dL_law_251 (fun H locs hP hD hS => ?_)
              refine lv_aload_n hx hb dL_law_254 rfl (lv_at hl 2 rfl) ?_
              refine lv_aload_n hx hb dL_law_255 rfl (lv_at hl 0 rfl) ?_
              refine lv_iload_n hx hb dL_law_256 rfl (lv_at hl 3 rfl) ?_
              refine lv_iconst (v := 1) hx hb dL_law_257 (by decide) ?_
              refine lv_iadd hx hb dL_law_258 ?_
              refine va_sld hx hb hX hbl hbA hS v1 dL_law_259 ?_
              refine lv_aload_n hx hb dL_law_260 rfl (lv_at hl 0 rfl) ?_
              refine lv_iload_n hx hb dL_law_261 rfl (lv_at hl 3 rfl) ?_
              refine lv_iconst (v := 2) hx hb dL_law_262 (by decide) ?_
              refine lv_iadd hx hb dL_law_263 ?_
              refine va_sld hx hb hX hbl hbA hS v2 dL_law_264 ?_
              refine lv_aload_n hx hb dL_law_265 rfl (lv_at hl 0 rfl) ?_
              refine lv_iload_n hx hb dL_law_266 rfl (lv_at hl 3 rfl) ?_
              refine lv_iconst (v := 3) hx hb dL_law_267 (by decide) ?_
              refine lv_iadd hx hb dL_law_268 ?_
              refine va_sld hx hb hX hbl hbA hS v3 dL_law_269 ?_
              refine lm_way l D cI cC cH a1 a2 ad am N (xs (Int32.toNatClampNeg (nI i + 1))) (xs (Int32.toNatClampNeg (nI i + 2))) (xs (Int32.toNatClampNeg (nI i + 3))) S2 M (r, M2) [.int r] hq2 F hP hD hS hl (Nat.le_of_ble_eq_true rfl) dL_law_270 (fun H locs hP hD hS => ?_)
              refine lv_icmp_eq (tgt := 732) hx hb dL_law_273 (by decide) (fun c9 => ?_) (fun c9 => absurd rfl c9)
              refine lv_iinc (v := nI (i + 4)) (lv' := [(3, .int (nI (i + 4))), (0, .ref b), (1, .ref a1), (2, .ref a2)]) hx hb dL_law_732 hl (k := 3) rfl (nI4 i) (by decide) rfl (fun ls hl => ?_)
              refine lv_goto (tgt := 18) hx hb dL_law_735 (by decide) ?_
              exact ih (i + 4) (by omega) (by omega) S2 M2 hr2 _ _ _ (lv_sub hl [1, 2, 3, 0] rfl) hP hD hS
            · by_cases c6 : (xs (Int32.toNatClampNeg (nI i)) &&& 31) = 4
              · refine lv_tableIn (tgt := 278) hx hb dL_law_32 (by rw [c6]; decide) (by rw [c6]; decide) (by rw [c6]; rfl) (by decide) ?_
                refine lv_aload_n hx hb dL_law_278 rfl (lv_at hl 1 rfl) ?_
                refine lv_aload_n hx hb dL_law_279 rfl (lv_at hl 0 rfl) ?_
                refine lv_iload_n hx hb dL_law_280 rfl (lv_at hl 3 rfl) ?_
                refine lv_iconst (v := 1) hx hb dL_law_281 (by decide) ?_
                refine lv_iadd hx hb dL_law_282 ?_
                refine va_sld hx hb hX hbl hbA hS v1 dL_law_283 ?_
                obtain ⟨r, S2, M2, hq1, hq2, hr2⟩ := step_drop hN (xs (Int32.toNatClampNeg (nI i + 1))) hrel
                refine lx_drop l D cI cC cH a1 a2 ad am N (xs (Int32.toNatClampNeg (nI i + 1))) S M (r, S2) [] hq1 F hP hD hS hl (Nat.le_of_ble_eq_true rfl) dL_law_284 (fun H locs hP hD hS => ?_)
                refine lv_aload_n hx hb dL_law_287 rfl (lv_at hl 2 rfl) ?_
                refine lv_aload_n hx hb dL_law_288 rfl (lv_at hl 0 rfl) ?_
                refine lv_iload_n hx hb dL_law_289 rfl (lv_at hl 3 rfl) ?_
                refine lv_iconst (v := 1) hx hb dL_law_290 (by decide) ?_
                refine lv_iadd hx hb dL_law_291 ?_
                refine va_sld hx hb hX hbl hbA hS v1 dL_law_292 ?_
                refine lm_drop l D cI cC cH a1 a2 ad am N (xs (Int32.toNatClampNeg (nI i + 1))) S2 M (r, M2) [.int r] hq2 F hP hD hS hl (Nat.le_of_ble_eq_true rfl) dL_law_293 (fun H locs hP hD hS => ?_)
                refine lv_icmp_eq (tgt := 732) hx hb dL_law_296 (by decide) (fun c9 => ?_) (fun c9 => absurd rfl c9)
                refine lv_iinc (v := nI (i + 4)) (lv' := [(3, .int (nI (i + 4))), (0, .ref b), (1, .ref a1), (2, .ref a2)]) hx hb dL_law_732 hl (k := 3) rfl (nI4 i) (by decide) rfl (fun ls hl => ?_)
                refine lv_goto (tgt := 18) hx hb dL_law_735 (by decide) ?_
                exact ih (i + 4) (by omega) (by omega) S2 M2 hr2 _ _ _ (lv_sub hl [1, 2, 3, 0] rfl) hP hD hS
              · by_cases c7 : (xs (Int32.toNatClampNeg (nI i)) &&& 31) = 5
                · refine lv_tableIn (tgt := 301) hx hb dL_law_32 (by rw [c7]; decide) (by rw [c7]; decide) (by rw [c7]; rfl) (by decide) ?_
                  refine lv_aload_n hx hb dL_law_301 rfl (lv_at hl 1 rfl) ?_
                  refine lv_aload_n hx hb dL_law_302 rfl (lv_at hl 0 rfl) ?_
                  refine lv_iload_n hx hb dL_law_303 rfl (lv_at hl 3 rfl) ?_
                  refine lv_iconst (v := 1) hx hb dL_law_304 (by decide) ?_
                  refine lv_iadd hx hb dL_law_305 ?_
                  refine va_sld hx hb hX hbl hbA hS v1 dL_law_306 ?_
                  refine lv_aload_n hx hb dL_law_307 rfl (lv_at hl 0 rfl) ?_
                  refine lv_iload_n hx hb dL_law_308 rfl (lv_at hl 3 rfl) ?_
                  refine lv_iconst (v := 2) hx hb dL_law_309 (by decide) ?_
                  refine lv_iadd hx hb dL_law_310 ?_
                  refine va_sld hx hb hX hbl hbA hS v2 dL_law_311 ?_
                  obtain ⟨r, S2, M2, hq1, hq2, hr2⟩ := step_placeOf hN (xs (Int32.toNatClampNeg (nI i + 1))) (xs (Int32.toNatClampNeg (nI i + 2))) hrel
                  refine lx_placeOf l D cI cC cH a1 a2 ad am N (xs (Int32.toNatClampNeg (nI i + 1))) (xs (Int32.toNatClampNeg (nI i + 2))) S M (r, S2) [] hq1 F hP hD hS hl (Nat.le_of_ble_eq_true rfl) dL_law_312 (fun H locs hP hD hS => ?_)
                  refine lv_aload_n hx hb dL_law_315 rfl (lv_at hl 2 rfl) ?_
                  refine lv_aload_n hx hb dL_law_316 rfl (lv_at hl 0 rfl) ?_
                  refine lv_iload_n hx hb dL_law_317 rfl (lv_at hl 3 rfl) ?_
                  refine lv_iconst (v := 1) hx hb dL_law_318 (by decide) ?_
                  refine lv_iadd hx hb dL_law_319 ?_
                  refine va_sld hx hb hX hbl hbA hS v1 dL_law_320 ?_
                  refine lv_aload_n hx hb dL_law_321 rfl (lv_at hl 0 rfl) ?_
                  refine lv_iload_n hx hb dL_law_322 rfl (lv_at hl 3 rfl) ?_
                  refine lv_iconst (v := 2) hx hb dL_law_323 (by decide) ?_
                  refine lv_iadd hx hb dL_law_324 ?_
                  refine va_sld hx hb hX hbl hbA hS v2 dL_law_325 ?_
                  refine lm_placeOf l D cI cC cH a1 a2 ad am N (xs (Int32.toNatClampNeg (nI i + 1))) (xs (Int32.toNatClampNeg (nI i + 2))) S2 M (r, M2) [.int r] hq2 F hP hD hS hl (Nat.le_of_ble_eq_true rfl) dL_law_326 (fun H locs hP hD hS => ?_)
                  refine lv_icmp_eq (tgt := 732) hx hb dL_law_329 (by decide) (fun c9 => ?_) (fun c9 => absurd rfl c9)
                  refine lv_iinc (v := nI (i + 4)) (lv' := [(3, .int (nI (i + 4))), (0, .ref b), (1, .ref a1), (2, .ref a2)]) hx hb dL_law_732 hl (k := 3) rfl (nI4 i) (by decide) rfl (fun ls hl => ?_)
                  refine lv_goto (tgt := 18) hx hb dL_law_735 (by decide) ?_
                  exact ih (i + 4) (by omega) (by omega) S2 M2 hr2 _ _ _ (lv_sub hl [1, 2, 3, 0] rfl) hP hD hS
                · by_cases c8 : (xs (Int32.toNatClampNeg (nI i)) &&& 31) = 6
                  · refine lv_tableIn (tgt := 334) hx hb dL_law_32 (by rw [c8]; decide) (by rw [c8]; decide) (by rw [c8]; rfl) (by decide) ?_
                    refine lv_aload_n hx hb dL_law_334 rfl (lv_at hl 1 rfl) ?_
                    refine lv_aload_n hx hb dL_law_335 rfl (lv_at hl 0 rfl) ?_
                    refine lv_iload_n hx hb dL_law_336 rfl (lv_at hl 3 rfl) ?_
                    refine lv_iconst (v := 1) hx hb dL_law_337 (by decide) ?_
                    refine lv_iadd hx hb dL_law_338 ?_
                    refine va_sld hx hb hX hbl hbA hS v1 dL_law_339 ?_
                    obtain ⟨r, S2, M2, hq1, hq2, hr2⟩ := step_count hN (xs (Int32.toNatClampNeg (nI i + 1))) hrel
                    refine lx_count l D cI cC cH a1 a2 ad am N (xs (Int32.toNatClampNeg (nI i + 1))) S M (r, S2) [] hq1 F hP hD hS hl (Nat.le_of_ble_eq_true rfl) dL_law_340 (fun H locs hP hD hS => ?_)
                    refine lv_aload_n hx hb dL_law_343 rfl (lv_at hl 2 rfl) ?_
                    refine lv_aload_n hx hb dL_law_344 rfl (lv_at hl 0 rfl) ?_
                    refine lv_iload_n hx hb dL_law_345 rfl (lv_at hl 3 rfl) ?_
                    refine lv_iconst (v := 1) hx hb dL_law_346 (by decide) ?_
                    refine lv_iadd hx hb dL_law_347 ?_
                    refine va_sld hx hb hX hbl hbA hS v1 dL_law_348 ?_
                    refine lm_count l D cI cC cH a1 a2 ad am N (xs (Int32.toNatClampNeg (nI i + 1))) S2 M (r, M2) [.int r] hq2 F hP hD hS hl (Nat.le_of_ble_eq_true rfl) dL_law_349 (fun H locs hP hD hS => ?_)
                    refine lv_icmp_eq (tgt := 732) hx hb dL_law_352 (by decide) (fun c9 => ?_) (fun c9 => absurd rfl c9)
                    refine lv_iinc (v := nI (i + 4)) (lv' := [(3, .int (nI (i + 4))), (0, .ref b), (1, .ref a1), (2, .ref a2)]) hx hb dL_law_732 hl (k := 3) rfl (nI4 i) (by decide) rfl (fun ls hl => ?_)
                    refine lv_goto (tgt := 18) hx hb dL_law_735 (by decide) ?_
                    exact ih (i + 4) (by omega) (by omega) S2 M2 hr2 _ _ _ (lv_sub hl [1, 2, 3, 0] rfl) hP hD hS
                  · by_cases c9 : (xs (Int32.toNatClampNeg (nI i)) &&& 31) = 7
                    · refine lv_tableIn (tgt := 357) hx hb dL_law_32 (by rw [c9]; decide) (by rw [c9]; decide) (by rw [c9]; rfl) (by decide) ?_
                      refine lv_aload_n hx hb dL_law_357 rfl (lv_at hl 1 rfl) ?_
                      refine lv_aload_n hx hb dL_law_358 rfl (lv_at hl 0 rfl) ?_
                      refine lv_iload_n hx hb dL_law_359 rfl (lv_at hl 3 rfl) ?_
                      refine lv_iconst (v := 1) hx hb dL_law_360 (by decide) ?_
                      refine lv_iadd hx hb dL_law_361 ?_
                      refine va_sld hx hb hX hbl hbA hS v1 dL_law_362 ?_
                      refine lv_aload_n hx hb dL_law_363 rfl (lv_at hl 0 rfl) ?_
                      refine lv_iload_n hx hb dL_law_364 rfl (lv_at hl 3 rfl) ?_
                      refine lv_iconst (v := 2) hx hb dL_law_365 (by decide) ?_
                      refine lv_iadd hx hb dL_law_366 ?_
                      refine va_sld hx hb hX hbl hbA hS v2 dL_law_367 ?_
                      obtain ⟨r, S2, M2, hq1, hq2, hr2⟩ := step_pulled hN (xs (Int32.toNatClampNeg (nI i + 1))) (xs (Int32.toNatClampNeg (nI i + 2))) hrel
                      refine lx_pulled l D cI cC cH a1 a2 ad am N (xs (Int32.toNatClampNeg (nI i + 1))) (xs (Int32.toNatClampNeg (nI i + 2))) S M (r, S2) [] hq1 F hP hD hS hl (Nat.le_of_ble_eq_true rfl) dL_law_368 (fun H locs hP hD hS => ?_)
                      refine lv_aload_n hx hb dL_law_371 rfl (lv_at hl 2 rfl) ?_
                      refine lv_aload_n hx hb dL_law_372 rfl (lv_at hl 0 rfl) ?_
                      refine lv_iload_n hx hb dL_law_373 rfl (lv_at hl 3 rfl) ?_
                      refine lv_iconst (v := 1) hx hb dL_law_374 (by decide) ?_
                      refine lv_iadd hx hb dL_law_375 ?_
                      refine va_sld hx hb hX hbl hbA hS v1 dL_law_376 ?_
                      refine lv_aload_n hx hb dL_law_377 rfl (lv_at hl 0 rfl) ?_
                      refine lv_iload_n hx hb dL_law_378 rfl (lv_at hl 3 rfl) ?_
                      refine lv_iconst (v := 2) hx hb dL_law_379 (by decide) ?_
                      refine lv_iadd hx hb dL_law_380 ?_
                      refine va_sld hx hb hX hbl hbA hS v2 dL_law_381 ?_
                      refine lm_pulled l D cI cC cH a1 a2 ad am N (xs (Int32.toNatClampNeg (nI i + 1))) (xs (Int32.toNatClampNeg (nI i + 2))) S2 M (r, M2) [.int r] hq2 F hP hD hS hl (Nat.le_of_ble_eq_true rfl) dL_law_382 (fun H locs hP hD hS => ?_)
                      refine lv_icmp_eq (tgt := 732) hx hb dL_law_385 (by decide) (fun c9 => ?_) (fun c9 => absurd rfl c9)
                      refine lv_iinc (v := nI (i + 4)) (lv' := [(3, .int (nI (i + 4))), (0, .ref b), (1, .ref a1), (2, .ref a2)]) hx hb dL_law_732 hl (k := 3) rfl (nI4 i) (by decide) rfl (fun ls hl => ?_)
                      refine lv_goto (tgt := 18) hx hb dL_law_735 (by decide) ?_
                      exact ih (i + 4) (by omega) (by omega) S2 M2 hr2 _ _ _ (lv_sub hl [1, 2, 3, 0] rfl) hP hD hS
                    · by_cases c10 : (xs (Int32.toNatClampNeg (nI i)) &&& 31) = 8
                      · refine lv_tableIn (tgt := 390) hx hb dL_law_32 (by rw [c10]; decide) (by rw [c10]; decide) (by rw [c10]; rfl) (by decide) ?_
                        refine lv_aload_n hx hb dL_law_390 rfl (lv_at hl 1 rfl) ?_
                        refine lv_aload_n hx hb dL_law_391 rfl (lv_at hl 0 rfl) ?_
                        refine lv_iload_n hx hb dL_law_392 rfl (lv_at hl 3 rfl) ?_
                        refine lv_iconst (v := 1) hx hb dL_law_393 (by decide) ?_
                        refine lv_iadd hx hb dL_law_394 ?_
                        refine va_sld hx hb hX hbl hbA hS v1 dL_law_395 ?_
                        refine lv_aload_n hx hb dL_law_396 rfl (lv_at hl 0 rfl) ?_
                        refine lv_iload_n hx hb dL_law_397 rfl (lv_at hl 3 rfl) ?_
                        refine lv_iconst (v := 2) hx hb dL_law_398 (by decide) ?_
                        refine lv_iadd hx hb dL_law_399 ?_
                        refine va_sld hx hb hX hbl hbA hS v2 dL_law_400 ?_
                        refine lv_aload_n hx hb dL_law_401 rfl (lv_at hl 0 rfl) ?_
                        refine lv_iload_n hx hb dL_law_402 rfl (lv_at hl 3 rfl) ?_
                        refine lv_iconst (v := 3) hx hb dL_law_403 (by decide) ?_
                        refine lv_iadd hx hb dL_law_404 ?_
                        refine va_sld hx hb hX hbl hbA hS v3 dL_law_405 ?_
                        obtain ⟨r, S2, M2, hq1, hq2, hr2⟩ := step_steps hN (xs (Int32.toNatClampNeg (nI i + 1))) (xs (Int32.toNatClampNeg (nI i + 2))) (xs (Int32.toNatClampNeg (nI i + 3))) hrel
                        refine lx_steps l D cI cC cH a1 a2 ad am N (xs (Int32.toNatClampNeg (nI i + 1))) (xs (Int32.toNatClampNeg (nI i + 2))) (xs (Int32.toNatClampNeg (nI i + 3))) S M (r, S2) [] hq1 F hP hD hS hl (Nat.le_of_ble_eq_true rfl) dL_law_406 (fun H locs hP hD hS => ?_)
                        refine lv_aload_n hx hb dL_law_409 rfl (lv_at hl 2 rfl) ?_
                        refine lv_aload_n hx hb dL_law_410 rfl (lv_at hl 0 rfl) ?_
                        refine lv_iload_n hx hb dL_law_411 rfl (lv_at hl 3 rfl) ?_
                        refine lv_iconst (v := 1) hx hb dL_law_412 (by decide) ?_
                        refine lv_iadd hx hb dL_law_413 ?_
                        refine va_sld hx hb hX hbl hbA hS v1 dL_law_414 ?_
                        refine lv_aload_n hx hb dL_law_415 rfl (lv_at hl 0 rfl) ?_
                        refine lv_iload_n hx hb dL_law_416 rfl (lv_at hl 3 rfl) ?_
                        refine lv_iconst (v := 2) hx hb dL_law_417 (by decide) ?_
                        refine lv_iadd hx hb dL_law_418 ?_
                        refine va_sld hx hb hX hbl hbA hS v2 dL_law_419 ?_
                        refine lv_aload_n hx hb dL_law_420 rfl (lv_at hl 0 rfl) ?_
                        refine lv_iload_n hx hb dL_law_421 rfl (lv_at hl 3 rfl) ?_
                        refine lv_iconst (v := 3) hx hb dL_law_422 (by decide) ?_
                        refine lv_iadd hx hb dL_law_423 ?_
                        refine va_sld hx hb hX hbl hbA hS v3 dL_law_424 ?_
                        refine lm_steps l D cI cC cH a1 a2 ad am N (xs (Int32.toNatClampNeg (nI i + 1))) (xs (Int32.toNatClampNeg (nI i + 2))) (xs (Int32.toNatClampNeg (nI i + 3))) S2 M (r, M2) [.int r] hq2 F hP hD hS hl (Nat.le_of_ble_eq_true rfl) dL_law_425 (fun H locs hP hD hS => ?_)
                        refine lv_icmp_eq (tgt := 732) hx hb dL_law_428 (by decide) (fun c9 => ?_) (fun c9 => absurd rfl c9)
                        refine lv_iinc (v := nI (i + 4)) (lv' := [(3, .int (nI (i + 4))), (0, .ref b), (1, .ref a1), (2, .ref a2)]) hx hb dL_law_732 hl (k := 3) rfl (nI4 i) (by decide) rfl (fun ls hl => ?_)
                        refine lv_goto (tgt := 18) hx hb dL_law_735 (by decide) ?_
                        exact ih (i + 4) (by omega) (by omega) S2 M2 hr2 _ _ _ (lv_sub hl [1, 2, 3, 0] rfl) hP hD hS
                      · by_cases c11 : (xs (Int32.toNatClampNeg (nI i)) &&& 31) = 9
                        · refine lv_tableIn (tgt := 433) hx hb dL_law_32 (by rw [c11]; decide) (by rw [c11]; decide) (by rw [c11]; rfl) (by decide) ?_
                          refine lv_aload_n hx hb dL_law_433 rfl (lv_at hl 1 rfl) ?_
                          refine lv_aload_n hx hb dL_law_434 rfl (lv_at hl 0 rfl) ?_
                          refine lv_iload_n hx hb dL_law_435 rfl (lv_at hl 3 rfl) ?_
                          refine lv_iconst (v := 1) hx hb dL_law_436 (by decide) ?_
                          refine lv_iadd hx hb dL_law_437 ?_
                          refine va_sld hx hb hX hbl hbA hS v1 dL_law_438 ?_
                          refine lv_aload_n hx hb dL_law_439 rfl (lv_at hl 0 rfl) ?_
                          refine lv_iload_n hx hb dL_law_440 rfl (lv_at hl 3 rfl) ?_
                          refine lv_iconst (v := 2) hx hb dL_law_441 (by decide) ?_
                          refine lv_iadd hx hb dL_law_442 ?_
                          refine va_sld hx hb hX hbl hbA hS v2 dL_law_443 ?_
                          obtain ⟨r, S2, M2, hq1, hq2, hr2⟩ := step_trap hN (xs (Int32.toNatClampNeg (nI i + 1))) (xs (Int32.toNatClampNeg (nI i + 2))) hrel
                          refine lx_trap l D cI cC cH a1 a2 ad am N (xs (Int32.toNatClampNeg (nI i + 1))) (xs (Int32.toNatClampNeg (nI i + 2))) S M (r, S2) [] hq1 F hP hD hS hl (Nat.le_of_ble_eq_true rfl) dL_law_444 (fun H locs hP hD hS => ?_)
                          refine lv_aload_n hx hb dL_law_447 rfl (lv_at hl 2 rfl) ?_
                          refine lv_aload_n hx hb dL_law_448 rfl (lv_at hl 0 rfl) ?_
                          refine lv_iload_n hx hb dL_law_449 rfl (lv_at hl 3 rfl) ?_
                          refine lv_iconst (v := 1) hx hb dL_law_450 (by decide) ?_
                          refine lv_iadd hx hb dL_law_451 ?_
                          refine va_sld hx hb hX hbl hbA hS v1 dL_law_452 ?_
                          refine lv_aload_n hx hb dL_law_453 rfl (lv_at hl 0 rfl) ?_
                          refine lv_iload_n hx hb dL_law_454 rfl (lv_at hl 3 rfl) ?_
                          refine lv_iconst (v := 2) hx hb dL_law_455 (by decide) ?_
                          refine lv_iadd hx hb dL_law_456 ?_
                          refine va_sld hx hb hX hbl hbA hS v2 dL_law_457 ?_
                          refine lm_trap l D cI cC cH a1 a2 ad am N (xs (Int32.toNatClampNeg (nI i + 1))) (xs (Int32.toNatClampNeg (nI i + 2))) S2 M (r, M2) [.int r] hq2 F hP hD hS hl (Nat.le_of_ble_eq_true rfl) dL_law_458 (fun H locs hP hD hS => ?_)
                          refine lv_icmp_eq (tgt := 732) hx hb dL_law_461 (by decide) (fun c9 => ?_) (fun c9 => absurd rfl c9)
                          refine lv_iinc (v := nI (i + 4)) (lv' := [(3, .int (nI (i + 4))), (0, .ref b), (1, .ref a1), (2, .ref a2)]) hx hb dL_law_732 hl (k := 3) rfl (nI4 i) (by decide) rfl (fun ls hl => ?_)
                          refine lv_goto (tgt := 18) hx hb dL_law_735 (by decide) ?_
                          exact ih (i + 4) (by omega) (by omega) S2 M2 hr2 _ _ _ (lv_sub hl [1, 2, 3, 0] rfl) hP hD hS
                        · by_cases c12 : (xs (Int32.toNatClampNeg (nI i)) &&& 31) = 10
                          · refine lv_tableIn (tgt := 466) hx hb dL_law_32 (by rw [c12]; decide) (by rw [c12]; decide) (by rw [c12]; rfl) (by decide) ?_
                            refine lv_aload_n hx hb dL_law_466 rfl (lv_at hl 1 rfl) ?_
                            refine lv_aload_n hx hb dL_law_467 rfl (lv_at hl 0 rfl) ?_
                            refine lv_iload_n hx hb dL_law_468 rfl (lv_at hl 3 rfl) ?_
                            refine lv_iconst (v := 1) hx hb dL_law_469 (by decide) ?_
                            refine lv_iadd hx hb dL_law_470 ?_
                            refine va_sld hx hb hX hbl hbA hS v1 dL_law_471 ?_
                            refine lv_aload_n hx hb dL_law_472 rfl (lv_at hl 0 rfl) ?_
                            refine lv_iload_n hx hb dL_law_473 rfl (lv_at hl 3 rfl) ?_
                            refine lv_iconst (v := 2) hx hb dL_law_474 (by decide) ?_
                            refine lv_iadd hx hb dL_law_475 ?_
                            refine va_sld hx hb hX hbl hbA hS v2 dL_law_476 ?_
                            obtain ⟨r, S2, M2, hq1, hq2, hr2⟩ := step_greatestTrap hN (xs (Int32.toNatClampNeg (nI i + 1))) (xs (Int32.toNatClampNeg (nI i + 2))) hrel
                            refine lx_greatestTrap l D cI cC cH a1 a2 ad am N (xs (Int32.toNatClampNeg (nI i + 1))) (xs (Int32.toNatClampNeg (nI i + 2))) S M (r, S2) [] hq1 F hP hD hS hl (Nat.le_of_ble_eq_true rfl) dL_law_477 (fun H locs hP hD hS => ?_)
                            refine lv_aload_n hx hb dL_law_480 rfl (lv_at hl 2 rfl) ?_
                            refine lv_aload_n hx hb dL_law_481 rfl (lv_at hl 0 rfl) ?_
                            refine lv_iload_n hx hb dL_law_482 rfl (lv_at hl 3 rfl) ?_
                            refine lv_iconst (v := 1) hx hb dL_law_483 (by decide) ?_
                            refine lv_iadd hx hb dL_law_484 ?_
                            refine va_sld hx hb hX hbl hbA hS v1 dL_law_485 ?_
                            refine lv_aload_n hx hb dL_law_486 rfl (lv_at hl 0 rfl) ?_
                            refine lv_iload_n hx hb dL_law_487 rfl (lv_at hl 3 rfl) ?_
                            refine lv_iconst (v := 2) hx hb dL_law_488 (by decide) ?_
                            refine lv_iadd hx hb dL_law_489 ?_
                            refine va_sld hx hb hX hbl hbA hS v2 dL_law_490 ?_
                            refine lm_greatestTrap l D cI cC cH a1 a2 ad am N (xs (Int32.toNatClampNeg (nI i + 1))) (xs (Int32.toNatClampNeg (nI i + 2))) S2 M (r, M2) [.int r] hq2 F hP hD hS hl (Nat.le_of_ble_eq_true rfl) dL_law_491 (fun H locs hP hD hS => ?_)
                            refine lv_icmp_eq (tgt := 732) hx hb dL_law_494 (by decide) (fun c9 => ?_) (fun c9 => absurd rfl c9)
                            refine lv_iinc (v := nI (i + 4)) (lv' := [(3, .int (nI (i + 4))), (0, .ref b), (1, .ref a1), (2, .ref a2)]) hx hb dL_law_732 hl (k := 3) rfl (nI4 i) (by decide) rfl (fun ls hl => ?_)
                            refine lv_goto (tgt := 18) hx hb dL_law_735 (by decide) ?_
                            exact ih (i + 4) (by omega) (by omega) S2 M2 hr2 _ _ _ (lv_sub hl [1, 2, 3, 0] rfl) hP hD hS
                          · by_cases c13 : (xs (Int32.toNatClampNeg (nI i)) &&& 31) = 11
                            · refine lv_tableIn (tgt := 499) hx hb dL_law_32 (by rw [c13]; decide) (by rw [c13]; decide) (by rw [c13]; rfl) (by decide) ?_
                              refine lv_aload_n hx hb dL_law_499 rfl (lv_at hl 1 rfl) ?_
                              refine lv_aload_n hx hb dL_law_500 rfl (lv_at hl 0 rfl) ?_
                              refine lv_iload_n hx hb dL_law_501 rfl (lv_at hl 3 rfl) ?_
                              refine lv_iconst (v := 1) hx hb dL_law_502 (by decide) ?_
                              refine lv_iadd hx hb dL_law_503 ?_
                              refine va_sld hx hb hX hbl hbA hS v1 dL_law_504 ?_
                              refine lv_aload_n hx hb dL_law_505 rfl (lv_at hl 0 rfl) ?_
                              refine lv_iload_n hx hb dL_law_506 rfl (lv_at hl 3 rfl) ?_
                              refine lv_iconst (v := 2) hx hb dL_law_507 (by decide) ?_
                              refine lv_iadd hx hb dL_law_508 ?_
                              refine va_sld hx hb hX hbl hbA hS v2 dL_law_509 ?_
                              obtain ⟨r, S2, M2, hq1, hq2, hr2⟩ := step_play hN (xs (Int32.toNatClampNeg (nI i + 1))) (xs (Int32.toNatClampNeg (nI i + 2))) hrel
                              refine lx_play l D cI cC cH a1 a2 ad am N (xs (Int32.toNatClampNeg (nI i + 1))) (xs (Int32.toNatClampNeg (nI i + 2))) S M (r, S2) [] hq1 F hP hD hS hl (Nat.le_of_ble_eq_true rfl) dL_law_510 (fun H locs hP hD hS => ?_)
                              refine lv_aload_n hx hb dL_law_513 rfl (lv_at hl 2 rfl) ?_
                              refine lv_aload_n hx hb dL_law_514 rfl (lv_at hl 0 rfl) ?_
                              refine lv_iload_n hx hb dL_law_515 rfl (lv_at hl 3 rfl) ?_
                              refine lv_iconst (v := 1) hx hb dL_law_516 (by decide) ?_
                              refine lv_iadd hx hb dL_law_517 ?_
                              refine va_sld hx hb hX hbl hbA hS v1 dL_law_518 ?_
                              refine lv_aload_n hx hb dL_law_519 rfl (lv_at hl 0 rfl) ?_
                              refine lv_iload_n hx hb dL_law_520 rfl (lv_at hl 3 rfl) ?_
                              refine lv_iconst (v := 2) hx hb dL_law_521 (by decide) ?_
                              refine lv_iadd hx hb dL_law_522 ?_
                              refine va_sld hx hb hX hbl hbA hS v2 dL_law_523 ?_
                              refine lm_play l D cI cC cH a1 a2 ad am N (xs (Int32.toNatClampNeg (nI i + 1))) (xs (Int32.toNatClampNeg (nI i + 2))) S2 M (r, M2) [.int r] hq2 F hP hD hS hl (Nat.le_of_ble_eq_true rfl) dL_law_524 (fun H locs hP hD hS => ?_)
                              refine lv_icmp_eq (tgt := 732) hx hb dL_law_527 (by decide) (fun c9 => ?_) (fun c9 => absurd rfl c9)
                              refine lv_iinc (v := nI (i + 4)) (lv' := [(3, .int (nI (i + 4))), (0, .ref b), (1, .ref a1), (2, .ref a2)]) hx hb dL_law_732 hl (k := 3) rfl (nI4 i) (by decide) rfl (fun ls hl => ?_)
                              refine lv_goto (tgt := 18) hx hb dL_law_735 (by decide) ?_
                              exact ih (i + 4) (by omega) (by omega) S2 M2 hr2 _ _ _ (lv_sub hl [1, 2, 3, 0] rfl) hP hD hS
                            · by_cases c14 : (xs (Int32.toNatClampNeg (nI i)) &&& 31) = 12
                              · refine lv_tableIn (tgt := 532) hx hb dL_law_32 (by rw [c14]; decide) (by rw [c14]; decide) (by rw [c14]; rfl) (by decide) ?_
                                refine lv_aload_n hx hb dL_law_532 rfl (lv_at hl 1 rfl) ?_
                                refine lv_aload_n hx hb dL_law_533 rfl (lv_at hl 0 rfl) ?_
                                refine lv_iload_n hx hb dL_law_534 rfl (lv_at hl 3 rfl) ?_
                                refine lv_iconst (v := 1) hx hb dL_law_535 (by decide) ?_
                                refine lv_iadd hx hb dL_law_536 ?_
                                refine va_sld hx hb hX hbl hbA hS v1 dL_law_537 ?_
                                obtain ⟨r, S2, M2, hq1, hq2, hr2⟩ := step_proves hN (xs (Int32.toNatClampNeg (nI i + 1))) hrel
                                refine lx_proves l D cI cC cH a1 a2 ad am N (xs (Int32.toNatClampNeg (nI i + 1))) S M (r, S2) [] hq1 F hP hD hS hl (Nat.le_of_ble_eq_true rfl) dL_law_538 (fun H locs hP hD hS => ?_)
                                refine lv_aload_n hx hb dL_law_541 rfl (lv_at hl 2 rfl) ?_
                                refine lv_aload_n hx hb dL_law_542 rfl (lv_at hl 0 rfl) ?_
                                refine lv_iload_n hx hb dL_law_543 rfl (lv_at hl 3 rfl) ?_
                                refine lv_iconst (v := 1) hx hb dL_law_544 (by decide) ?_
                                refine lv_iadd hx hb dL_law_545 ?_
                                refine va_sld hx hb hX hbl hbA hS v1 dL_law_546 ?_
                                refine lm_proves l D cI cC cH a1 a2 ad am N (xs (Int32.toNatClampNeg (nI i + 1))) S2 M (r, M2) [.int r] hq2 F hP hD hS hl (Nat.le_of_ble_eq_true rfl) dL_law_547 (fun H locs hP hD hS => ?_)
                                refine lv_icmp_eq (tgt := 732) hx hb dL_law_550 (by decide) (fun c9 => ?_) (fun c9 => absurd rfl c9)
                                refine lv_iinc (v := nI (i + 4)) (lv' := [(3, .int (nI (i + 4))), (0, .ref b), (1, .ref a1), (2, .ref a2)]) hx hb dL_law_732 hl (k := 3) rfl (nI4 i) (by decide) rfl (fun ls hl => ?_)
                                refine lv_goto (tgt := 18) hx hb dL_law_735 (by decide) ?_
                                exact ih (i + 4) (by omega) (by omega) S2 M2 hr2 _ _ _ (lv_sub hl [1, 2, 3, 0] rfl) hP hD hS
                              · by_cases c15 : (xs (Int32.toNatClampNeg (nI i)) &&& 31) = 13
                                · refine lv_tableIn (tgt := 555) hx hb dL_law_32 (by rw [c15]; decide) (by rw [c15]; decide) (by rw [c15]; rfl) (by decide) ?_
                                  refine lv_aload_n hx hb dL_law_555 rfl (lv_at hl 1 rfl) ?_
                                  refine lv_aload_n hx hb dL_law_556 rfl (lv_at hl 0 rfl) ?_
                                  refine lv_iload_n hx hb dL_law_557 rfl (lv_at hl 3 rfl) ?_
                                  refine lv_iconst (v := 1) hx hb dL_law_558 (by decide) ?_
                                  refine lv_iadd hx hb dL_law_559 ?_
                                  refine va_sld hx hb hX hbl hbA hS v1 dL_law_560 ?_
                                  refine lv_aload_n hx hb dL_law_561 rfl (lv_at hl 0 rfl) ?_
                                  refine lv_iload_n hx hb dL_law_562 rfl (lv_at hl 3 rfl) ?_
                                  refine lv_iconst (v := 2) hx hb dL_law_563 (by decide) ?_
                                  refine lv_iadd hx hb dL_law_564 ?_
                                  refine va_sld hx hb hX hbl hbA hS v2 dL_law_565 ?_
                                  obtain ⟨r, S2, M2, hq1, hq2, hr2⟩ := step_only hN (xs (Int32.toNatClampNeg (nI i + 1))) (xs (Int32.toNatClampNeg (nI i + 2))) hrel
                                  refine lx_only l D cI cC cH a1 a2 ad am N (xs (Int32.toNatClampNeg (nI i + 1))) (xs (Int32.toNatClampNeg (nI i + 2))) S M (r, S2) [] hq1 F hP hD hS hl (Nat.le_of_ble_eq_true rfl) dL_law_566 (fun H locs hP hD hS => ?_)
                                  refine lv_aload_n hx hb dL_law_569 rfl (lv_at hl 2 rfl) ?_
                                  refine lv_aload_n hx hb dL_law_570 rfl (lv_at hl 0 rfl) ?_
                                  refine lv_iload_n hx hb dL_law_571 rfl (lv_at hl 3 rfl) ?_
                                  refine lv_iconst (v := 1) hx hb dL_law_572 (by decide) ?_
                                  refine lv_iadd hx hb dL_law_573 ?_
                                  refine va_sld hx hb hX hbl hbA hS v1 dL_law_574 ?_
                                  refine lv_aload_n hx hb dL_law_575 rfl (lv_at hl 0 rfl) ?_
                                  refine lv_iload_n hx hb dL_law_576 rfl (lv_at hl 3 rfl) ?_
                                  refine lv_iconst (v := 2) hx hb dL_law_577 (by decide) ?_
                                  refine lv_iadd hx hb dL_law_578 ?_
                                  refine va_sld hx hb hX hbl hbA hS v2 dL_law_579 ?_
                                  refine lm_only l D cI cC cH a1 a2 ad am N (xs (Int32.toNatClampNeg (nI i + 1))) (xs (Int32.toNatClampNeg (nI i + 2))) S2 M (r, M2) [.int r] hq2 F hP hD hS hl (Nat.le_of_ble_eq_true rfl) dL_law_580 (fun H locs hP hD hS => ?_)
                                  refine lv_icmp_eq (tgt := 732) hx hb dL_law_583 (by decide) (fun c9 => ?_) (fun c9 => absurd rfl c9)
                                  refine lv_iinc (v := nI (i + 4)) (lv' := [(3, .int (nI (i + 4))), (0, .ref b), (1, .ref a1), (2, .ref a2)]) hx hb dL_law_732 hl (k := 3) rfl (nI4 i) (by decide) rfl (fun ls hl => ?_)
                                  refine lv_goto (tgt := 18) hx hb dL_law_735 (by decide) ?_
                                  exact ih (i + 4) (by omega) (by omega) S2 M2 hr2 _ _ _ (lv_sub hl [1, 2, 3, 0] rfl) hP hD hS
                                · by_cases c16 : (xs (Int32.toNatClampNeg (nI i)) &&& 31) = 14
                                  · refine lv_tableIn (tgt := 588) hx hb dL_law_32 (by rw [c16]; decide) (by rw [c16]; decide) (by rw [c16]; rfl) (by decide) ?_
                                    refine lv_aload_n hx hb dL_law_588 rfl (lv_at hl 1 rfl) ?_
                                    refine lv_aload_n hx hb dL_law_589 rfl (lv_at hl 0 rfl) ?_
                                    refine lv_iload_n hx hb dL_law_590 rfl (lv_at hl 3 rfl) ?_
                                    refine lv_iconst (v := 1) hx hb dL_law_591 (by decide) ?_
                                    refine lv_iadd hx hb dL_law_592 ?_
                                    refine va_sld hx hb hX hbl hbA hS v1 dL_law_593 ?_
                                    refine lv_aload_n hx hb dL_law_594 rfl (lv_at hl 0 rfl) ?_
                                    refine lv_iload_n hx hb dL_law_595 rfl (lv_at hl 3 rfl) ?_
                                    refine lv_iconst (v := 2) hx hb dL_law_596 (by decide) ?_
                                    refine lv_iadd hx hb dL_law_597 ?_
                                    refine va_sld hx hb hX hbl hbA hS v2 dL_law_598 ?_
                                    obtain ⟨r, S2, M2, hq1, hq2, hr2⟩ := step_littleChange hN (xs (Int32.toNatClampNeg (nI i + 1))) (xs (Int32.toNatClampNeg (nI i + 2))) hrel
                                    refine lx_littleChange l D cI cC cH a1 a2 ad am N (xs (Int32.toNatClampNeg (nI i + 1))) (xs (Int32.toNatClampNeg (nI i + 2))) S M (r, S2) [] hq1 F hP hD hS hl (Nat.le_of_ble_eq_true rfl) dL_law_599 (fun H locs hP hD hS => ?_)
                                    refine lv_aload_n hx hb dL_law_602 rfl (lv_at hl 2 rfl) ?_
                                    refine lv_aload_n hx hb dL_law_603 rfl (lv_at hl 0 rfl) ?_
                                    refine lv_iload_n hx hb dL_law_604 rfl (lv_at hl 3 rfl) ?_
                                    refine lv_iconst (v := 1) hx hb dL_law_605 (by decide) ?_
                                    refine lv_iadd hx hb dL_law_606 ?_
                                    refine va_sld hx hb hX hbl hbA hS v1 dL_law_607 ?_
                                    refine lv_aload_n hx hb dL_law_608 rfl (lv_at hl 0 rfl) ?_
                                    refine lv_iload_n hx hb dL_law_609 rfl (lv_at hl 3 rfl) ?_
                                    refine lv_iconst (v := 2) hx hb dL_law_610 (by decide) ?_
                                    refine lv_iadd hx hb dL_law_611 ?_
                                    refine va_sld hx hb hX hbl hbA hS v2 dL_law_612 ?_
                                    refine lm_littleChange l D cI cC cH a1 a2 ad am N (xs (Int32.toNatClampNeg (nI i + 1))) (xs (Int32.toNatClampNeg (nI i + 2))) S2 M (r, M2) [.int r] hq2 F hP hD hS hl (Nat.le_of_ble_eq_true rfl) dL_law_613 (fun H locs hP hD hS => ?_)
                                    refine lv_icmp_eq (tgt := 732) hx hb dL_law_616 (by decide) (fun c9 => ?_) (fun c9 => absurd rfl c9)
                                    refine lv_iinc (v := nI (i + 4)) (lv' := [(3, .int (nI (i + 4))), (0, .ref b), (1, .ref a1), (2, .ref a2)]) hx hb dL_law_732 hl (k := 3) rfl (nI4 i) (by decide) rfl (fun ls hl => ?_)
                                    refine lv_goto (tgt := 18) hx hb dL_law_735 (by decide) ?_
                                    exact ih (i + 4) (by omega) (by omega) S2 M2 hr2 _ _ _ (lv_sub hl [1, 2, 3, 0] rfl) hP hD hS
                                  · by_cases c17 : (xs (Int32.toNatClampNeg (nI i)) &&& 31) = 15
                                    · refine lv_tableIn (tgt := 621) hx hb dL_law_32 (by rw [c17]; decide) (by rw [c17]; decide) (by rw [c17]; rfl) (by decide) ?_
                                      refine lv_aload_n hx hb dL_law_621 rfl (lv_at hl 1 rfl) ?_
                                      obtain ⟨r, S2, M2, hq1, hq2, hr2⟩ := step_keep hN  hrel
                                      refine lx_keep l D cI cC cH a1 a2 ad am N  S M (r, S2) [] hq1 F hP hD hS hl (Nat.le_of_ble_eq_true rfl) dL_law_622 (fun H locs hP hD hS => ?_)
                                      refine lv_aload_n hx hb dL_law_625 rfl (lv_at hl 2 rfl) ?_
                                      refine lm_keep l D cI cC cH a1 a2 ad am N  S2 M (r, M2) [.int r] hq2 F hP hD hS hl (Nat.le_of_ble_eq_true rfl) dL_law_626 (fun H locs hP hD hS => ?_)
                                      refine lv_icmp_eq (tgt := 732) hx hb dL_law_629 (by decide) (fun c9 => ?_) (fun c9 => absurd rfl c9)
                                      refine lv_iinc (v := nI (i + 4)) (lv' := [(3, .int (nI (i + 4))), (0, .ref b), (1, .ref a1), (2, .ref a2)]) hx hb dL_law_732 hl (k := 3) rfl (nI4 i) (by decide) rfl (fun ls hl => ?_)
                                      refine lv_goto (tgt := 18) hx hb dL_law_735 (by decide) ?_
                                      exact ih (i + 4) (by omega) (by omega) S2 M2 hr2 _ _ _ (lv_sub hl [1, 2, 3, 0] rfl) hP hD hS
                                    · by_cases c18 : (xs (Int32.toNatClampNeg (nI i)) &&& 31) = 16
                                      · refine lv_tableIn (tgt := 634) hx hb dL_law_32 (by rw [c18]; decide) (by rw [c18]; decide) (by rw [c18]; rfl) (by decide) ?_
                                        refine lv_aload_n hx hb dL_law_634 rfl (lv_at hl 1 rfl) ?_
                                        obtain ⟨r, S2, M2, hq1, hq2, hr2⟩ := step_restore hN  hrel
                                        refine lx_restore l D cI cC cH a1 a2 ad am N  S M (r, S2) [] hq1 F hP hD hS hl (Nat.le_of_ble_eq_true rfl) dL_law_635 (fun H locs hP hD hS => ?_)
                                        refine lv_aload_n hx hb dL_law_638 rfl (lv_at hl 2 rfl) ?_
                                        refine lm_restore l D cI cC cH a1 a2 ad am N  S2 M (r, M2) [.int r] hq2 F hP hD hS hl (Nat.le_of_ble_eq_true rfl) dL_law_639 (fun H locs hP hD hS => ?_)
                                        refine lv_icmp_eq (tgt := 732) hx hb dL_law_642 (by decide) (fun c9 => ?_) (fun c9 => absurd rfl c9)
                                        refine lv_iinc (v := nI (i + 4)) (lv' := [(3, .int (nI (i + 4))), (0, .ref b), (1, .ref a1), (2, .ref a2)]) hx hb dL_law_732 hl (k := 3) rfl (nI4 i) (by decide) rfl (fun ls hl => ?_)
                                        refine lv_goto (tgt := 18) hx hb dL_law_735 (by decide) ?_
                                        exact ih (i + 4) (by omega) (by omega) S2 M2 hr2 _ _ _ (lv_sub hl [1, 2, 3, 0] rfl) hP hD hS
                                      · by_cases c19 : (xs (Int32.toNatClampNeg (nI i)) &&& 31) = 17
                                        · refine lv_tableIn (tgt := 647) hx hb dL_law_32 (by rw [c19]; decide) (by rw [c19]; decide) (by rw [c19]; rfl) (by decide) ?_
                                          refine lv_aload_n hx hb dL_law_647 rfl (lv_at hl 1 rfl) ?_
                                          obtain ⟨r, S2, M2, hq1, hq2, hr2⟩ := step_undo hN  hrel
                                          refine lx_undo l D cI cC cH a1 a2 ad am N  S M (r, S2) [] hq1 F hP hD hS hl (Nat.le_of_ble_eq_true rfl) dL_law_648 (fun H locs hP hD hS => ?_)
                                          refine lv_aload_n hx hb dL_law_651 rfl (lv_at hl 2 rfl) ?_
                                          refine lm_undo l D cI cC cH a1 a2 ad am N  S2 M (r, M2) [.int r] hq2 F hP hD hS hl (Nat.le_of_ble_eq_true rfl) dL_law_652 (fun H locs hP hD hS => ?_)
                                          refine lv_icmp_eq (tgt := 732) hx hb dL_law_655 (by decide) (fun c9 => ?_) (fun c9 => absurd rfl c9)
                                          refine lv_iinc (v := nI (i + 4)) (lv' := [(3, .int (nI (i + 4))), (0, .ref b), (1, .ref a1), (2, .ref a2)]) hx hb dL_law_732 hl (k := 3) rfl (nI4 i) (by decide) rfl (fun ls hl => ?_)
                                          refine lv_goto (tgt := 18) hx hb dL_law_735 (by decide) ?_
                                          exact ih (i + 4) (by omega) (by omega) S2 M2 hr2 _ _ _ (lv_sub hl [1, 2, 3, 0] rfl) hP hD hS
                                        · by_cases c20 : (xs (Int32.toNatClampNeg (nI i)) &&& 31) = 18
                                          · refine lv_tableIn (tgt := 660) hx hb dL_law_32 (by rw [c20]; decide) (by rw [c20]; decide) (by rw [c20]; rfl) (by decide) ?_
                                            refine lv_aload_n hx hb dL_law_660 rfl (lv_at hl 1 rfl) ?_
                                            refine lv_aload_n hx hb dL_law_661 rfl (lv_at hl 0 rfl) ?_
                                            refine lv_iload_n hx hb dL_law_662 rfl (lv_at hl 3 rfl) ?_
                                            refine lv_iconst (v := 1) hx hb dL_law_663 (by decide) ?_
                                            refine lv_iadd hx hb dL_law_664 ?_
                                            refine va_sld hx hb hX hbl hbA hS v1 dL_law_665 ?_
                                            obtain ⟨r, S2, M2, hq1, hq2, hr2⟩ := step_type hN (xs (Int32.toNatClampNeg (nI i + 1))) hrel
                                            refine lx_type l D cI cC cH a1 a2 ad am N (xs (Int32.toNatClampNeg (nI i + 1))) S M (r, S2) [] hq1 F hP hD hS hl (Nat.le_of_ble_eq_true rfl) dL_law_666 (fun H locs hP hD hS => ?_)
                                            refine lv_aload_n hx hb dL_law_669 rfl (lv_at hl 2 rfl) ?_
                                            refine lv_aload_n hx hb dL_law_670 rfl (lv_at hl 0 rfl) ?_
                                            refine lv_iload_n hx hb dL_law_671 rfl (lv_at hl 3 rfl) ?_
                                            refine lv_iconst (v := 1) hx hb dL_law_672 (by decide) ?_
                                            refine lv_iadd hx hb dL_law_673 ?_
                                            refine va_sld hx hb hX hbl hbA hS v1 dL_law_674 ?_
                                            refine lm_type l D cI cC cH a1 a2 ad am N (xs (Int32.toNatClampNeg (nI i + 1))) S2 M (r, M2) [.int r] hq2 F hP hD hS hl (Nat.le_of_ble_eq_true rfl) dL_law_675 (fun H locs hP hD hS => ?_)
                                            refine lv_icmp_eq (tgt := 732) hx hb dL_law_678 (by decide) (fun c9 => ?_) (fun c9 => absurd rfl c9)
                                            refine lv_iinc (v := nI (i + 4)) (lv' := [(3, .int (nI (i + 4))), (0, .ref b), (1, .ref a1), (2, .ref a2)]) hx hb dL_law_732 hl (k := 3) rfl (nI4 i) (by decide) rfl (fun ls hl => ?_)
                                            refine lv_goto (tgt := 18) hx hb dL_law_735 (by decide) ?_
                                            exact ih (i + 4) (by omega) (by omega) S2 M2 hr2 _ _ _ (lv_sub hl [1, 2, 3, 0] rfl) hP hD hS
                                          · by_cases c21 : (xs (Int32.toNatClampNeg (nI i)) &&& 31) = 19
                                            · refine lv_tableIn (tgt := 683) hx hb dL_law_32 (by rw [c21]; decide) (by rw [c21]; decide) (by rw [c21]; rfl) (by decide) ?_
                                              refine lv_aload_n hx hb dL_law_683 rfl (lv_at hl 1 rfl) ?_
                                              obtain ⟨r, S2, M2, hq1, hq2, hr2⟩ := step_clearText hN  hrel
                                              refine lx_clearText l D cI cC cH a1 a2 ad am N  S M (r, S2) [] hq1 F hP hD hS hl (Nat.le_of_ble_eq_true rfl) dL_law_684 (fun H locs hP hD hS => ?_)
                                              refine lv_aload_n hx hb dL_law_687 rfl (lv_at hl 2 rfl) ?_
                                              refine lm_clearText l D cI cC cH a1 a2 ad am N  S2 M (r, M2) [.int r] hq2 F hP hD hS hl (Nat.le_of_ble_eq_true rfl) dL_law_688 (fun H locs hP hD hS => ?_)
                                              refine lv_icmp_eq (tgt := 732) hx hb dL_law_691 (by decide) (fun c9 => ?_) (fun c9 => absurd rfl c9)
                                              refine lv_iinc (v := nI (i + 4)) (lv' := [(3, .int (nI (i + 4))), (0, .ref b), (1, .ref a1), (2, .ref a2)]) hx hb dL_law_732 hl (k := 3) rfl (nI4 i) (by decide) rfl (fun ls hl => ?_)
                                              refine lv_goto (tgt := 18) hx hb dL_law_735 (by decide) ?_
                                              exact ih (i + 4) (by omega) (by omega) S2 M2 hr2 _ _ _ (lv_sub hl [1, 2, 3, 0] rfl) hP hD hS
                                            · by_cases c22 : (xs (Int32.toNatClampNeg (nI i)) &&& 31) = 20
                                              · refine lv_tableIn (tgt := 696) hx hb dL_law_32 (by rw [c22]; decide) (by rw [c22]; decide) (by rw [c22]; rfl) (by decide) ?_
                                                refine lv_aload_n hx hb dL_law_696 rfl (lv_at hl 1 rfl) ?_
                                                refine lv_aload_n hx hb dL_law_697 rfl (lv_at hl 0 rfl) ?_
                                                refine lv_iload_n hx hb dL_law_698 rfl (lv_at hl 3 rfl) ?_
                                                refine lv_iconst (v := 1) hx hb dL_law_699 (by decide) ?_
                                                refine lv_iadd hx hb dL_law_700 ?_
                                                refine va_sld hx hb hX hbl hbA hS v1 dL_law_701 ?_
                                                obtain ⟨r, S2, M2, hq1, hq2, hr2⟩ := step_fault hN (xs (Int32.toNatClampNeg (nI i + 1))) hrel
                                                refine lx_fault l D cI cC cH a1 a2 ad am N (xs (Int32.toNatClampNeg (nI i + 1))) S M (r, S2) [] hq1 F hP hD hS hl (Nat.le_of_ble_eq_true rfl) dL_law_702 (fun H locs hP hD hS => ?_)
                                                refine lv_aload_n hx hb dL_law_705 rfl (lv_at hl 2 rfl) ?_
                                                refine lv_aload_n hx hb dL_law_706 rfl (lv_at hl 0 rfl) ?_
                                                refine lv_iload_n hx hb dL_law_707 rfl (lv_at hl 3 rfl) ?_
                                                refine lv_iconst (v := 1) hx hb dL_law_708 (by decide) ?_
                                                refine lv_iadd hx hb dL_law_709 ?_
                                                refine va_sld hx hb hX hbl hbA hS v1 dL_law_710 ?_
                                                refine lm_fault l D cI cC cH a1 a2 ad am N (xs (Int32.toNatClampNeg (nI i + 1))) S2 M (r, M2) [.int r] hq2 F hP hD hS hl (Nat.le_of_ble_eq_true rfl) dL_law_711 (fun H locs hP hD hS => ?_)
                                                refine lv_icmp_eq (tgt := 732) hx hb dL_law_714 (by decide) (fun c9 => ?_) (fun c9 => absurd rfl c9)
                                                refine lv_iinc (v := nI (i + 4)) (lv' := [(3, .int (nI (i + 4))), (0, .ref b), (1, .ref a1), (2, .ref a2)]) hx hb dL_law_732 hl (k := 3) rfl (nI4 i) (by decide) rfl (fun ls hl => ?_)
                                                refine lv_goto (tgt := 18) hx hb dL_law_735 (by decide) ?_
                                                exact ih (i + 4) (by omega) (by omega) S2 M2 hr2 _ _ _ (lv_sub hl [1, 2, 3, 0] rfl) hP hD hS
                                              · by_cases c23 : (xs (Int32.toNatClampNeg (nI i)) &&& 31) = 21
                                                · refine lv_tableIn (tgt := 719) hx hb dL_law_32 (by rw [c23]; decide) (by rw [c23]; decide) (by rw [c23]; rfl) (by decide) ?_
                                                  refine lv_aload_n hx hb dL_law_719 rfl (lv_at hl 1 rfl) ?_
                                                  obtain ⟨r, S2, M2, hq1, hq2, hr2⟩ := step_read hN  hrel
                                                  refine lx_read l D cI cC cH a1 a2 ad am N  S M (r, S2) [] hq1 F hP hD hS hl (Nat.le_of_ble_eq_true rfl) dL_law_720 (fun H locs hP hD hS => ?_)
                                                  refine lv_aload_n hx hb dL_law_723 rfl (lv_at hl 2 rfl) ?_
                                                  refine lm_read l D cI cC cH a1 a2 ad am N  S2 M (r, M2) [.int r] hq2 F hP hD hS hl (Nat.le_of_ble_eq_true rfl) dL_law_724 (fun H locs hP hD hS => ?_)
                                                  refine lv_icmp_eq (tgt := 732) hx hb dL_law_727 (by decide) (fun c9 => ?_) (fun c9 => absurd rfl c9)
                                                  refine lv_iinc (v := nI (i + 4)) (lv' := [(3, .int (nI (i + 4))), (0, .ref b), (1, .ref a1), (2, .ref a2)]) hx hb dL_law_732 hl (k := 3) rfl (nI4 i) (by decide) rfl (fun ls hl => ?_)
                                                  refine lv_goto (tgt := 18) hx hb dL_law_735 (by decide) ?_
                                                  exact ih (i + 4) (by omega) (by omega) S2 M2 hr2 _ _ _ (lv_sub hl [1, 2, 3, 0] rfl) hP hD hS
                                                · have e9 : (xs (Int32.toNatClampNeg (nI i)) &&& 31).toInt ≠ 0 ∧ (xs (Int32.toNatClampNeg (nI i)) &&& 31).toInt ≠ 1 ∧ (xs (Int32.toNatClampNeg (nI i)) &&& 31).toInt ≠ 2 ∧ (xs (Int32.toNatClampNeg (nI i)) &&& 31).toInt ≠ 3 ∧ (xs (Int32.toNatClampNeg (nI i)) &&& 31).toInt ≠ 4 ∧ (xs (Int32.toNatClampNeg (nI i)) &&& 31).toInt ≠ 5 ∧ (xs (Int32.toNatClampNeg (nI i)) &&& 31).toInt ≠ 6 ∧ (xs (Int32.toNatClampNeg (nI i)) &&& 31).toInt ≠ 7 ∧ (xs (Int32.toNatClampNeg (nI i)) &&& 31).toInt ≠ 8 ∧ (xs (Int32.toNatClampNeg (nI i)) &&& 31).toInt ≠ 9 ∧ (xs (Int32.toNatClampNeg (nI i)) &&& 31).toInt ≠ 10 ∧ (xs (Int32.toNatClampNeg (nI i)) &&& 31).toInt ≠ 11 ∧ (xs (Int32.toNatClampNeg (nI i)) &&& 31).toInt ≠ 12 ∧ (xs (Int32.toNatClampNeg (nI i)) &&& 31).toInt ≠ 13 ∧ (xs (Int32.toNatClampNeg (nI i)) &&& 31).toInt ≠ 14 ∧ (xs (Int32.toNatClampNeg (nI i)) &&& 31).toInt ≠ 15 ∧ (xs (Int32.toNatClampNeg (nI i)) &&& 31).toInt ≠ 16 ∧ (xs (Int32.toNatClampNeg (nI i)) &&& 31).toInt ≠ 17 ∧ (xs (Int32.toNatClampNeg (nI i)) &&& 31).toInt ≠ 18 ∧ (xs (Int32.toNatClampNeg (nI i)) &&& 31).toInt ≠ 19 ∧ (xs (Int32.toNatClampNeg (nI i)) &&& 31).toInt ≠ 20 ∧ (xs (Int32.toNatClampNeg (nI i)) &&& 31).toInt ≠ 21 := ⟨neI c2 (by decide), neI c3 (by decide), neI c4 (by decide), neI c5 (by decide), neI c6 (by decide), neI c7 (by decide), neI c8 (by decide), neI c9 (by decide), neI c10 (by decide), neI c11 (by decide), neI c12 (by decide), neI c13 (by decide), neI c14 (by decide), neI c15 (by decide), neI c16 (by decide), neI c17 (by decide), neI c18 (by decide), neI c19 (by decide), neI c20 (by decide), neI c21 (by decide), neI c22 (by decide), neI c23 (by decide)⟩
                                                  refine lv_tableOut (tgt := 732) hx hb dL_law_32 (by omega) (by decide) ?_
                                                  refine lv_iinc (v := nI (i + 4)) (lv' := [(3, .int (nI (i + 4))), (0, .ref b), (1, .ref a1), (2, .ref a2)]) hx hb dL_law_732 hl (k := 3) rfl (nI4 i) (by decide) rfl (fun ls hl => ?_)
                                                  refine lv_goto (tgt := 18) hx hb dL_law_735 (by decide) ?_
                                                  exact ih (i + 4) (by omega) (by omega) S M hrel _ _ _ (lv_sub hl [1, 2, 3, 0] rfl) hP hD hS
theorem kcls {p : Program} {s : State} {m : MethodId} {meth : Method} {c : Code} {b L : Nat} {xs : Nat → Int32} (C0 : lw_At p s m meth c b L xs) : ∃ (D : va_G) (cI cC cH : ClassId), va_K D vwCl (tyL cI cC cH) s := by
  obtain ⟨hx, hb, hr, hml, hown, hts, hX, hbl, hlocks, hgv⟩ := id C0
  have hg : ∀ w ∈ wG, w.before #[Value.ref b] s = true := fun w h => hts w (List.mem_filter.mp h).1
  obtain ⟨c0, i0, k0⟩ := u_known (C := RX0) (T := TX0) (N := 4) (n := 4) hg inG0 (hg _ wd1_17)
  obtain ⟨c1, i1, k1⟩ := u_known (C := RX2) (T := TX2) (N := 9) (n := 9) hg inG2 (hg _ wd1_47)
  obtain ⟨c2, i2, k2⟩ := u_known (C := RX3) (T := TX3) (N := 11) (n := 11) hg inG3 (hg _ wd1_9)
  obtain ⟨c3, i3, k3⟩ := u_known (C := RX4) (T := TX4) (N := 21) (n := 21) hg inG4 (hg _ wd2_147)
  obtain ⟨cI, kI, pI, e1, e2, e3⟩ := Cond.arrayClass_spec (hg _ wd1_44)
  obtain ⟨cC, kC, pC, f1, f2, f3⟩ := Cond.arrayClass_spec (hg _ wdchar)
  have hO : (Cond.arrayOver (.object "RankRings$Field")).before #[Value.ref b] s = true := hts _ (by decide +kernel)
  obtain ⟨pH, cH, kH, g1, g2, g3, g4, g5⟩ := Cond.arrayOver_spec hO
  refine ⟨(fun k => if k = 0 then c0 else if k = 1 then c1 else if k = 2 then c2 else c3, fun k => if k = 0 then i0 else if k = 1 then i1 else if k = 2 then i2 else i3), cI, cC, cH, ?_, ?_⟩
  · intro k q hq
    match k, hq with
    | 0, hq => cases hq; exact k0
    | 1, hq => cases hq; exact k1
    | 2, hq => cases hq; exact k2
    | 3, hq => cases hq; exact k3
    | k + 4, hq => simp [vwCl] at hq
  · intro k q hq
    match k, hq with
    | 0, hq => cases hq; exact ⟨fun n z => ⟨fun k h => (by cases h), kI, e2, pI, e3⟩, e1⟩
    | 1, hq => cases hq; exact ⟨fun n z => ⟨fun k h => (by cases h), kC, f2, pC, f3⟩, f1⟩
    | 2, hq => cases hq; exact ⟨fun n z => ⟨fun k h => (by cases h), kH, g3, pH, g4⟩, kH, pH, g3, g4, g1, g5⟩
    | k + 3, hq => simp at hq
set_option maxHeartbeats 8000000 in
set_option maxRecDepth 100000 in
/-- THE LAW, from its entry -/
theorem whole_start {p : Program} {e : Env} {s : State} {m : MethodId} {below : List Frame} {meth : Method} {c : Code} (l : Launch) (hflags : l.flags = flags0) {b L : Nat} {xs : Nat → Int32} (hL : L ≤ 2048) (C0 : lw_At p s m meth c b L xs) : W p l e room_1 s m #[Value.ref b] below meth c s.heap [] 0 0 (lw_Z below #[Value.ref b] s) (entryFrame m ([Value.ref b] : List Value).toArray 4) := by
  obtain ⟨hx, hb, hr, hml, hown, hts, hX, hbl, hlocks, hgv⟩ := id C0
  have hg : ∀ w ∈ wG, w.before #[Value.ref b] s = true := fun w h => hts w (List.mem_filter.mp h).1
  obtain ⟨D, cI, cC, cH, hK⟩ := kcls C0
  have hA : ∀ q : Nat, s.heap.size ≤ q → (fun q : Nat => s.heap.size ≤ q) q := fun _ h => h
  have hN : NW s := ⟨va_Nw.of rfl (hts nw0 (by decide +kernel)), va_Nw.of rfl (hts nw1 (by decide +kernel)), va_Nw.of rfl (hts nw2 (by decide +kernel))⟩
  have hO : va_AO "RankRings$Field" s := va_AO.of (A := #[Value.ref b]) (hts _ (by decide +kernel))
  have F : FX p m c code 4 s #[Value.ref b] R_law D (tyL cI cC cH) (fun q : Nat => s.heap.size ≤ q) := ⟨hx, hb, hml, hown, hg, hN, hK, hA⟩
  have hS : va_S (fun q : Nat => s.heap.size ≤ q) s.heap s.heap [] := va_S.rf
  have hP : va_P D vwCl [] s.heap := fun k q h => by simp at h
  have hD : va_D (fun q : Nat => s.heap.size ≤ q) [] := ⟨fun i j p q h => by simp at h, fun k q h => by simp at h⟩
  have hl := lv_entry ([.ref b]) (n := 4) (Nat.le_of_ble_eq_true rfl)
  rw [lg_entry_eq]
  generalize (lg_sl ([.ref b]) ++ List.replicate (4 - (lg_sl ([.ref b])).length) Slot.unset).toArray = ls at hl ⊢
  have hl : lv_has ls 4 [(0, .ref b)] := hl
  refine va_new (ci := 2) (fs := [.null, .null, .int 0, .null, .int 0, .null, .null, .int 0, .int 0, .int 0, .null]) (C := RX3) (T := TX3) (N := 11) hx hb hg inG3 tyX3 tyX3_ok hown (hg _ wd1_8) (hg _ wd1_9) (hg _ wd1_1) hK hP hD hS hA rfl (fun j hj => by rcases (show j = 0 ∨ j = 1 ∨ j = 2 ∨ j = 3 ∨ j = 4 ∨ j = 5 ∨ j = 6 ∨ j = 7 ∨ j = 8 ∨ j = 9 ∨ j = 10 by omega) with rfl | rfl | rfl | rfl | rfl | rfl | rfl | rfl | rfl | rfl | rfl <;> rfl) (Nat.le_of_ble_eq_true rfl) (Nat.le_of_ble_eq_true rfl) dL_law_0 (fun q0v H hP hD hS => ?_)
  have hP : va_P D vwCl ([(q0v, .inr (2, [.null, .null, .int 0, .null, .int 0, .null, .null, .int 0, .int 0, .int 0, .null]))]) H := hP
  have hD : va_D (fun q : Nat => s.heap.size ≤ q) ([(q0v, .inr (2, [.null, .null, .int 0, .null, .int 0, .null, .null, .int 0, .int 0, .int 0, .null]))]) := hD
  refine W.widen (k := 1) (n := 11) (Nat.le_of_ble_eq_true rfl) (Nat.le_of_ble_eq_true rfl) ?_
  refine lv_dup hx hb dL_law_3 rfl ?_
  refine kiC (wr := []) F hO (c_X3_init l D cI cC cH q0v) yfX3_init ⟨wd1_10, wd1_11⟩ rfl hP hD hS [0] [] rfl rfl (by decide) (by decide) (by decide) ⟨Nat.le_of_ble_eq_true rfl, Nat.le_of_ble_eq_true rfl, Nat.le_of_ble_eq_true rfl, Nat.le_of_ble_eq_true rfl⟩ hl rfl (Nat.le_of_ble_eq_true rfl) dL_law_4 (fun u1 H locs hP hD hS => ?_)
  have hP : va_P D vwCl (wX cI cC cH q0v u1 (fun i => u1 (23 + i)) (fun _ => 0) (fun _ _ => 0)) H := hP
  have hD : va_D (fun q : Nat => s.heap.size ≤ q) (wX cI cC cH q0v u1 (fun i => u1 (23 + i)) (fun _ => 0) (fun _ _ => 0)) := hD
  refine W.widen (k := 39) (n := 596) (Nat.le_of_ble_eq_true rfl) (Nat.le_of_ble_eq_true rfl) ?_
  refine lv_astore_n (lv' := [(1, .ref q0v), (0, .ref b)]) hx hb dL_law_7 rfl hl (by decide) rfl (fun ls hl => ?_)
  refine va_new (ci := 3) (fs := [.null, .null, .null, .int 0, .int 0, .null, .int 0, .null, .int 0, .int 0, .int 0, .null, .null, .int 0, .int 0, .int 0, .null, .null, .null, .null, .null]) (C := RX4) (T := TX4) (N := 21) hx hb hg inG4 tyX4 tyX4_ok hown (hg _ wd2_146) (hg _ wd2_147) (hg _ wd1_4) hK hP hD hS hA rfl (fun j hj => by rcases (show j = 0 ∨ j = 1 ∨ j = 2 ∨ j = 3 ∨ j = 4 ∨ j = 5 ∨ j = 6 ∨ j = 7 ∨ j = 8 ∨ j = 9 ∨ j = 10 ∨ j = 11 ∨ j = 12 ∨ j = 13 ∨ j = 14 ∨ j = 15 ∨ j = 16 ∨ j = 17 ∨ j = 18 ∨ j = 19 ∨ j = 20 by omega) with rfl | rfl | rfl | rfl | rfl | rfl | rfl | rfl | rfl | rfl | rfl | rfl | rfl | rfl | rfl | rfl | rfl | rfl | rfl | rfl | rfl <;> rfl) (Nat.le_of_ble_eq_true rfl) (Nat.le_of_ble_eq_true rfl) dL_law_8 (fun q1v H hP hD hS => ?_)
  have hP : va_P D vwCl (wX cI cC cH q0v u1 (fun i => u1 (23 + i)) (fun _ => 0) (fun _ _ => 0) ++ [(q1v, .inr (3, [.null, .null, .null, .int 0, .int 0, .null, .int 0, .null, .int 0, .int 0, .int 0, .null, .null, .int 0, .int 0, .int 0, .null, .null, .null, .null, .null]))]) H := hP
  have hD : va_D (fun q : Nat => s.heap.size ≤ q) (wX cI cC cH q0v u1 (fun i => u1 (23 + i)) (fun _ => 0) (fun _ _ => 0) ++ [(q1v, .inr (3, [.null, .null, .null, .int 0, .int 0, .null, .int 0, .null, .int 0, .int 0, .int 0, .null, .null, .int 0, .int 0, .int 0, .null, .null, .null, .null, .null]))]) := hD
  refine W.widen (k := 40) (n := 617) (Nat.le_of_ble_eq_true rfl) (Nat.le_of_ble_eq_true rfl) ?_
  refine lv_dup hx hb dL_law_11 rfl ?_
  refine kiC (wr := wX cI cC cH q0v u1 (fun i => u1 (23 + i)) (fun _ => 0) (fun _ _ => 0)) F hO (c_X4_init l D cI cC cH q1v) yfX4_init ⟨wd2_148, wd2_149⟩ rfl hP hD hS [39] [0, 1, 2, 3, 4, 5, 6, 7, 8, 9, 10, 11, 12, 13, 14, 15, 16, 17, 18, 19, 20, 21, 22, 23, 24, 25, 26, 27, 28, 29, 30, 31, 32, 33, 34, 35, 36, 37, 38] rfl rfl (by decide) (by decide) (by decide) ⟨Nat.le_of_ble_eq_true rfl, Nat.le_of_ble_eq_true rfl, Nat.le_of_ble_eq_true rfl, Nat.le_of_ble_eq_true rfl⟩ hl rfl (Nat.le_of_ble_eq_true rfl) dL_law_12 (fun u2 H locs hP hD hS => ?_)
  refine W.widen (k := 52) (n := 1191) (Nat.le_of_ble_eq_true rfl) (Nat.le_of_ble_eq_true rfl) ?_
  refine lv_astore_n (lv' := [(2, .ref q1v), (1, .ref q0v), (0, .ref b)]) hx hb dL_law_15 rfl hl (by decide) rfl (fun ls hl => ?_)
  refine lv_iconst (v := 0) hx hb dL_law_16 (by decide) ?_
  refine lv_istore_n (lv' := [(3, .int 0), (2, .ref q1v), (1, .ref q0v), (0, .ref b)]) hx hb dL_law_17 rfl hl (by decide) rfl (fun ls hl => ?_)
  exact law_loop l hL C0 D cI cC cH 13000000 (Nat.le_refl _) q0v q1v u1 u2 F (L + 5) 0 (by omega) (by omega) ((fun i => u1 (23 + i)), (fun _ => 0), (fun _ _ => 0)) ((fun _ => 0), (fun _ _ => 0)) (rel_init _) _ _ _ (lv_sub hl [3, 2, 1, 0] rfl) hP hD hS
set_option maxHeartbeats 4000000 in
theorem lw_walk (l : Launch) (hflags : l.flags = flags0) (b : Addr) (xs : List Int32) : MetFree l x (headSpec (Jvm.Cond.code x code maxLocals ret :: tables_1) room_1) (lw_P b xs) (fun _ _ _ _ _ => True) lw_Q := by
  refine MetFree.of_bodyS (code := code) (maxLocals := maxLocals) (ret := ret) (by decide) ?_ ?_
  · intro args s m h hn
    obtain ⟨meth, c, h1, h2, h3, h4, h5, h6, -, -⟩ := Cond.code_spec hn (atoms_spec (ws := Jvm.Cond.code x code maxLocals ret :: tables_1) h _ List.mem_cons_self)
    exact ⟨meth, c, h1, h2, h3, h4, h5, h6⟩
  · intro p e s m args below meth c s₁ B hml0 hP _
    obtain ⟨rfl, hx, hbd, hgv⟩ := hP
    obtain ⟨scr, harrAt, hlist, hof, hsmall⟩ := hx
    obtain ⟨hcb, hkn, -, -⟩ := State.arrayAt?_spec harrAt
    have hown : s.vm.findClass R_law = some m.cls := findClass_of_methodNamed B.named
    have hts0 : ∀ c ∈ (Jvm.Cond.code x code maxLocals ret :: tables_1), c.before #[Value.ref b] s = true := atoms_spec (ws := Jvm.Cond.code x code maxLocals ret :: tables_1) B.pre
    have hts : ∀ w ∈ lw_tbl, w.before #[Value.ref b] s = true := k2_hts_sels lw_privs (fun w hw => hts0 w (List.mem_cons_of_mem _ hw)) lw_privs_ok
    have hml : c.maxLocals = 4 := B.maxLocals_eq (hts0 _ List.mem_cons_self)
    have X₀ : Stand p l e room_1 s m #[Value.ref b] below meth c s₁ [] 0 0 := Stand.of_body B
    have hh0 : s₁.heap = s.heap := by rw [B.state]; rfl
    have hsz : scr.slots.size = xs.length := by rw [← Array.length_toList, hlist, List.length_map]
    have hval : ∀ j : Nat, j < xs.length → scr.slots[j]? = some (.int (xs.getD j 0)) := fun j hj => by
      rw [← Array.getElem?_toList, hlist]
      simp [hj]
    have hbl : b < s.heap.size := (Array.getElem?_eq_some_iff.mp hcb).1
    have hX : va_X b xs.length (fun j => xs.getD j 0) s s.heap := ⟨scr, hcb, hof, hkn, hsz, hval⟩
    have K : W p l e room_1 s m #[Value.ref b] below meth c s₁.heap [] 0 0 (lw_Z below #[Value.ref b] s) (entryFrame m ([Value.ref b] : List Value).toArray 4) := by
      rw [hh0]
      exact whole_start l hflags hbd ⟨B.exec, B.bytes, B.returns, hml, hown, hts, hX, hbl, B.notSynchronized, hgv⟩
    obtain ⟨t, a1, o, b1, b2, b3⟩ := K s₁ rfl X₀
    exact ⟨t, o, a1, b1, b2, b3⟩
theorem lw_pre_spec {args : Array Value} {s : State} (h : (Jvm.Cond.and given_1 narrow_1).before args s = true) (hr : rest_1_c.before args s = true) : ∃ (b : Addr) (xs : List Int32), lw_P b xs args s := by
  have hs := flat_of_before _ h
  have hq := flat_of_before _ hr
  have hc : (Cond.count 1).before args s = true := hs _ (by decide +kernel)
  have harr : (Cond.arrayOf (.arg 0) .int).before args s = true := hs _ (by decide +kernel)
  have hle : (Cond.le (.length (.arg 0)) (.int 2048)).before args s = true := hs _ (by decide +kernel)
  have hlen : (Cond.isInt (.length (.arg 0))).before args s = true := hq _ (by decide +kernel)
  have hall : (Cond.all (.arg 0) (.isInt (.elem (.arg 0) (.index 0)))).before args s = true := hq _ (by decide +kernel)
  obtain ⟨b, xs, hb, hx⟩ := State.ints_of_pre rfl harr hlen hall
  have hsm : xs.length < 2 ^ 31 := hx.choose_spec.2.2.2
  have hev : (Term.length (.arg 0)).eval args s none [] s = some (.int xs.length.toInt32) := hx.length_eval hb
  have hv := Cond.le_ints hev (show (Term.int 2048).eval args s none [] s = some (.int 2048) from rfl)
  have hd : xs.length.toInt32 ≤ 2048 := by
    simpa [Cond.before, Cond.holds, hv] using hle
  have hN : xs.length ≤ 2048 := (Int32.ofNat_le_ofNat hsm (by decide)).mp (show Int32.ofNat xs.length ≤ Int32.ofNat 2048 from hd)
  exact ⟨b, xs, Cond.one_arg hc (show args[0]? = some (.ref b) from hb), hx, hN, h⟩
theorem lw_comes (l : Launch) (hflags : l.flags = flags0) : Comes l x (Jvm.Cond.code x code maxLocals ret :: tables_1) room_1 (fun tb e args s => Calls_1 tb e args s ∧ rest_1 tb e args s ∧ Pre_1 tb e args s)
    (fun _ _ args s o t => lw_Q args s o t) := by
  intro p e ha hc hk s m args below hf hfit hheap happ hpre
  obtain ⟨b, xs, hP⟩ := lw_pre_spec hpre.2.2 hpre.2.1
  obtain ⟨k, o, h1, h2, h3, hQ⟩ := lw_walk l hflags b xs p e ha hc hk s m args below hf ((Spec.applies_iff_loose hf).mp happ).1 hP trivial
  exact ⟨k, o, h1, h2, h3, hQ⟩
theorem lw_frame {s t : State} {o : Outcome} {args : Array Value} (h : Framed s o t [] 600000 7302250) :
    Framed s o t (fieldLocs frame_1_writes args s ++ arrayLocs frame_1_arrays args s ++ staticLocs frame_1_statics s) 600000 7302250 := h
theorem lw_limb (L : Cond) (hL : ∀ (args : Array Value) (s t : State), L.after args s (.returned (some (.int 1))) t = true) :
    ArmFor flags0 classFile x code maxLocals ret World_1 tables_1 room_1 Calls_1 rest_1 Pre_1
      (fun tb e a s o t => postC L tb e a s o t ∧ Framed s o t (fieldLocs frame_1_writes a s ++ arrayLocs frame_1_arrays a s ++ staticLocs frame_1_statics s) 600000 7302250) := by
  intro l hflags _ _ p e ha hc hk s m args below hf hfit hheap happ hpre
  obtain ⟨k, o, h1, h2, h3, rfl, hF⟩ := lw_comes l hflags p e ha hc hk s m args below hf hfit hheap happ hpre
  exact ⟨k, _, h1, h2, h3, hL args s _, lw_frame hF⟩
theorem i_vc : Claimed_1_1 ∧ Claimed_1_2 := ⟨lw_limb limb_1_1 (fun args s t => by simp [limb_1_1, Cond.after, Cond.holds, Cond.value]), lw_limb limb_1_2 (fun args s t => Cond.after_iff.mpr (by
  first | (rw [show limb_1_2 = Cond.eq .result (.int 1) from rfl, Cond.eq_ints (x := 1) (y := 1) rfl rfl]; simp; done) | (simp [limb_1_2, Cond.value, Term.eval]; done)))⟩
