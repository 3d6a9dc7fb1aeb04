/-! the changes, call by call -/
theorem i00 {α : Type} {a b : α} : (if (0 : Int32) = 0 then a else b) = a := if_pos rfl
theorem i10 {α : Type} {a b : α} : (if (1 : Int32) = 0 then a else b) = b := if_neg (by decide)
theorem in_dec {N a b : Nat} (x : Int32) (hb : b < 2 ^ 30) (hab : a ≤ b) : (∃ j, a ≤ j ∧ j ≤ b ∧ x = nI j ∧ f_X4_in N x (nI a) (nI b) = some 1) ∨ (f_X4_in N x (nI a) (nI b) = some 0 ∧ ∀ j, a ≤ j → j ≤ b → x ≠ nI j) := by
  unfold f_X4_in
  rcases pk_ix x (n := b + 1) (by omega) with h | h | ⟨j, h1, rfl⟩
  · have h' : x.toInt < 0 := by rw [Int32.lt_iff_toInt_lt] at h; simpa using h
    refine Or.inr ⟨?_, fun j h1 h2 e => ?_⟩
    · rw [if_pos]
      rw [Int32.lt_iff_toInt_lt, nI_toInt (by omega)]
      omega
    · rw [e, nI_toInt (by omega)] at h'
      omega
  · have h' := h
    rw [Int32.le_iff_toInt_le, nI_toInt (by omega)] at h
    refine Or.inr ⟨?_, fun j h1 h2 e => ?_⟩
    · rw [if_neg ?_, if_pos ?_]
      · rw [Int32.lt_iff_toInt_lt, nI_toInt (by omega)]; omega
      · rw [Int32.lt_iff_toInt_lt, nI_toInt (by omega)]; omega
    · rw [e, nI_toInt (by omega)] at h; omega
  · by_cases h2 : a ≤ j
    · exact Or.inl ⟨j, h2, by omega, rfl, by rw [if_neg (nI_nlt h2 (by omega)), if_neg (nI_nlt (by omega) (by omega))]⟩
    · refine Or.inr ⟨by rw [if_pos (nI_lt (by omega) (by omega))], fun i h3 h4 e => ?_⟩
      have := (nI_eq (by omega) (by omega)).mp e
      omega
theorem c_player {N : Nat} (x : Int32) : (∃ i, i < 2 ∧ x = nI i ∧ f_X3_isPlayer N x = some 1 ∧ f_X4_in N x 0 1 = some 1) ∨ (f_X3_isPlayer N x = some 0 ∧ f_X4_in N x 0 1 = some 0) := by
  rcases in_dec (N := N) (a := 0) (b := 1) x (by omega) (by omega) with ⟨j, h1, h2, rfl, h4⟩ | ⟨h1, h2⟩
  · refine Or.inl ⟨j, by omega, rfl, ?_, h4⟩
    rcases (show j = 0 ∨ j = 1 by omega) with rfl | rfl <;> rfl
  · refine Or.inr ⟨?_, h1⟩
    have a0 : ¬ x = 0 := h2 0 (by omega) (by omega)
    have a1 : ¬ x = 1 := h2 1 (by omega) (by omega)
    simp only [f_X3_isPlayer, if_neg a0, if_neg a1, Option.bind_some, sm]
theorem c_rank {N : Nat} (x : Int32) : (∃ j, j < 6 ∧ x = nI j ∧ f_X3_isRank N x = some 1 ∧ f_X4_in N x 0 5 = some 1) ∨ (f_X3_isRank N x = some 0 ∧ f_X4_in N x 0 5 = some 0) := by
  rcases in_dec (N := N) (a := 0) (b := 5) x (by omega) (by omega) with ⟨j, h1, h2, rfl, h4⟩ | ⟨h1, h2⟩
  · refine Or.inl ⟨j, by omega, rfl, ?_, h4⟩
    unfold f_X3_isRank
    rw [if_neg (nI_pos (by omega)), if_neg (show ¬ (6 : Int32) ≤ nI j from nI_ge (b := 6) (by omega) (by omega))]
  · refine Or.inr ⟨?_, h1⟩
    unfold f_X3_isRank
    rcases pk_ix x (n := 6) (by omega) with h | h | ⟨j, h3, rfl⟩
    · rw [if_pos h]
    · by_cases e : x < 0
      · rw [if_pos e]
      · rw [if_neg e, if_pos (show (6 : Int32) ≤ x from h)]
    · exact absurd rfl (h2 j (by omega) (by omega))
theorem c_place {N n : Nat} {s : Nat → Int32} (x : Int32) (hn : n ≤ 12) (hs : s 0 = nI n) : (∃ k, k < n ∧ x = nI k ∧ f_X0_has N x (nI n) = some 1 ∧ f_X4_isPlace N x s = some 1) ∨ (f_X0_has N x (nI n) = some 0 ∧ f_X4_isPlace N x s = some 0) := by
  unfold f_X0_has f_X4_isPlace
  simp only [chk_t g037, c0, hs]
  rcases pk_ix x (n := n) (by omega) with h | h | ⟨k, h1, rfl⟩
  · exact Or.inr ⟨by rw [if_pos h], by rw [if_pos h]⟩
  · by_cases e : x < 0
    · exact Or.inr ⟨by rw [if_pos e], by rw [if_pos e]⟩
    · exact Or.inr ⟨by rw [if_neg e, if_pos h], by rw [if_neg e, if_pos h]⟩
  · refine Or.inl ⟨k, h1, rfl, ?_, ?_⟩
    · rw [if_neg (nI_pos (by omega)), if_neg (nI_ge h1 (by omega)), if_neg (show ¬ (12 : Int32) ≤ nI k from nI_ge (b := 12) (by omega) (by omega))]
    · rw [if_neg (nI_pos (by omega)), if_neg (nI_ge h1 (by omega))]
theorem upd_s {f : Nat → Int32} {k : Nat} {v : Int32} : upd f k v k = v := if_pos rfl
theorem upd_n {f : Nat → Int32} {k j : Nat} {v : Int32} (h : j ≠ k) : upd f k v j = f j := if_neg h
theorem rkN_nI {r : Nat → Int32} {k j : Nat} (h : r k = nI j) (hj : j < 6) : r k = nI (rkN r k) ∧ rkN r k < 6 := by
  unfold rkN
  rw [h, nI_clamp (by omega)]
  exact ⟨rfl, hj⟩
theorem p_ones {N : Nat} {x : Int32} (hN : 13 ≤ N) : f_X4_ones N x = some (nI (cn (bt x) 12)) := by
  obtain ⟨y, e1, e2⟩ := for_inv (fun m k a => f_X4_ones_L4 N x m a k) 12 (fun k (a : Int32) => a = nI (cn (bt x) k)) (fun a => a = nI (cn (bt x) 12))
    (fun m a ha => ⟨a, by simp only [f_X4_ones_L4]; rw [if_pos (by decide)], ha⟩)
    (fun m k a hk ha => Or.inr ⟨nI (cn (bt x) (k + 1)), by
      have k1 : ¬ (12 : Int32) ≤ nI k := nI_ge (b := 12) hk (by omega)
      subst ha
      simp only [f_X4_ones_L4, if_neg k1, bt_get (show k < 32 by omega), nI_1, cn]
      congr 1
      by_cases e : bt x k = true
      · rw [if_pos e, if_pos e]; exact nI_1 _
      · rw [if_neg e, if_neg e]; exact nI_add _ 0, rfl⟩)
    0 N (nI 0) (by omega) (by omega) rfl
  have e1 : f_X4_ones_L4 N x N 0 0 = some y := e1
  simp only [f_X4_ones, e1, e2, Option.bind_some]
theorem mk_step {A : Option (Int32 × XS)} {B : Option (Int32 × MS)} {r : Int32} {S2 : XS} {M2 : MS} (h1 : A = some (r, S2)) (h2 : B = some (r, M2)) (h : Rel S2 M2) : ∃ (r : Int32) (S2 : XS) (M2 : MS), A = some (r, S2) ∧ B = some (r, M2) ∧ Rel S2 M2 := ⟨r, S2, M2, h1, h2, h⟩
theorem step_own {N : Nat} (hN : 13000000 ≤ N) (x1 : Int32) (x2 : Int32) {S : XS} {M : MS} (h : Rel S M) : ∃ (r : Int32) (S2 : XS) (M2 : MS), x_own N x1 x2 S = some (r, S2) ∧ m_own N x1 x2 M = some (r, M2) ∧ Rel S2 M2 := by
  obtain ⟨⟨n, hz, V, hF, hw, hc⟩, hRH, hRK, hRT⟩ := h
  have hn := V.1
  rcases c_place (N := N) x1 hn hF.1 with ⟨k, hk, rfl, a1, a2⟩ | ⟨a1, a2⟩
  · rcases c_player (N := N) x2 with ⟨i, hi, rfl, b1, b2⟩ | ⟨b1, b2⟩
    · obtain ⟨ah', st', e0, e1, e2, e3, f0, f1, f2, f3, g0, g1, g2, g3, i0, i1, i2, i3, ps', past', hrec, hch, hR'⟩ := p_record (ah := S.1) (wk := S.2.1 10) (ck := S.2.1 12) hN V hF hRH
      obtain ⟨k1, k2, k3, k4⟩ := idx hk hn
      obtain ⟨m1', -, -, s1, -, -⟩ := idm hF hk hn
      refine mk_step (r := S.2.2 0 k) (by simp only [x_own, f_X3_own, hz, a1, b1, i10, Option.bind_some, hrec, chk_t k2, k3]; rfl) (by simp only [m_own, f_X4_own, a2, b2, i10, Option.bind_some, hch, m1, chk_t m1', nI_clamp (show 1 + k < 2 ^ 31 by omega), (hF.2 k hk).1]; rfl) ?_
      refine ⟨⟨n, hz, ⟨hn, fun j hj => ?_⟩, ⟨(upd_n (f := M.2 0) (show 0 ≠ 1 + k by omega)).trans hF.1, fun j hj => ?_⟩, fun h => absurd rfl h, fun h => absurd rfl h⟩, hR', hRK, hRT⟩
      · refine ⟨?_, (V.2 j hj).2⟩
        show upd (S.2.2 0) k (nI i) j = 0 ∨ upd (S.2.2 0) k (nI i) j = 1
        by_cases e : j = k
        · rw [e, upd_s]; rcases (show i = 0 ∨ i = 1 by omega) with rfl | rfl
          · exact Or.inl rfl
          · exact Or.inr rfl
        · rw [upd_n e]; exact (V.2 j hj).1
      · obtain ⟨z1, z2, z3⟩ := hF.2 j hj
        refine ⟨?_, ?_, ?_⟩
        · show upd (M.2 0) (1 + k) (nI i) (1 + j) = upd (S.2.2 0) k (nI i) j
          by_cases e : j = k
          · rw [e, upd_s, upd_s]
          · rw [upd_n e, upd_n (by omega)]; exact z1
        · show upd (M.2 0) (1 + k) (nI i) (13 + j) = S.2.2 1 j
          rw [upd_n (by omega)]; exact z2
        · show upd (M.2 0) (1 + k) (nI i) (25 + j) = S.2.2 2 j
          rw [upd_n (by omega)]; exact z3
    · refine mk_step (r := -1) (by simp only [x_own, f_X3_own, hz, a1, b1, i10, i00, Option.bind_some]; rfl) (by simp only [m_own, f_X4_own, a2, b2, i10, i00, Option.bind_some]; rfl) ?_
      exact ⟨⟨n, hz, V, hF, hw, hc⟩, hRH, hRK, hRT⟩
  · refine mk_step (r := -1) (by simp only [x_own, f_X3_own, hz, a1, i00, Option.bind_some]; rfl) (by simp only [m_own, f_X4_own, a2, i00, Option.bind_some]; rfl) ?_
    exact ⟨⟨n, hz, V, hF, hw, hc⟩, hRH, hRK, hRT⟩
theorem step_rank {N : Nat} (hN : 13000000 ≤ N) (x1 : Int32) (x2 : Int32) {S : XS} {M : MS} (h : Rel S M) : ∃ (r : Int32) (S2 : XS) (M2 : MS), x_rank N x1 x2 S = some (r, S2) ∧ m_rank N x1 x2 M = some (r, M2) ∧ Rel S2 M2 := by
  obtain ⟨⟨n, hz, V, hF, hw, hc⟩, hRH, hRK, hRT⟩ := h
  have hn := V.1
  rcases c_place (N := N) x1 hn hF.1 with ⟨k, hk, rfl, a1, a2⟩ | ⟨a1, a2⟩
  · rcases c_rank (N := N) x2 with ⟨i, hi, rfl, b1, b2⟩ | ⟨b1, b2⟩
    · obtain ⟨ah', st', e0, e1, e2, e3, f0, f1, f2, f3, g0, g1, g2, g3, i0, i1, i2, i3, ps', past', hrec, hch, hR'⟩ := p_record (ah := S.1) (wk := S.2.1 10) (ck := S.2.1 12) hN V hF hRH
      obtain ⟨k1, k2, k3, k4⟩ := idx hk hn
      obtain ⟨-, m1', -, -, s1, -⟩ := idm hF hk hn
      refine mk_step (r := S.2.2 1 k) (by simp only [x_rank, f_X3_rank, hz, a1, b1, i10, Option.bind_some, hrec, chk_t k2, k3]; rfl) (by simp only [m_rank, f_X4_rank, a2, b2, i10, Option.bind_some, hch, m13, chk_t m1', nI_clamp (show 13 + k < 2 ^ 31 by omega), (hF.2 k hk).2.1]; rfl) ?_
      refine ⟨⟨n, hz, ⟨hn, fun j hj => ?_⟩, ⟨?_, fun j hj => ?_⟩, fun h => absurd rfl h, fun h => absurd rfl h⟩, hR', hRK, hRT⟩
      · refine ⟨(V.2 j hj).1, ?_, (V.2 j hj).2.2⟩
        show upd (S.2.2 1) k (nI i) j = nI (rkN (upd (S.2.2 1) k (nI i)) j) ∧ rkN (upd (S.2.2 1) k (nI i)) j < 6
        by_cases e : j = k
        · exact rkN_nI (by rw [e, upd_s]) hi
        · exact rkN_nI (j := rkN (S.2.2 1) j) (by rw [upd_n e]; exact (V.2 j hj).2.1.1) (V.2 j hj).2.1.2
      · show upd (M.2 0) (13 + k) (nI i) 0 = nI n
        rw [upd_n (by omega)]; exact hF.1
      · obtain ⟨z1, z2, z3⟩ := hF.2 j hj
        refine ⟨?_, ?_, ?_⟩
        · show upd (M.2 0) (13 + k) (nI i) (1 + j) = S.2.2 0 j
          rw [upd_n (by omega)]; exact z1
        · show upd (M.2 0) (13 + k) (nI i) (13 + j) = upd (S.2.2 1) k (nI i) j
          by_cases e : j = k
          · rw [e, upd_s, upd_s]
          · rw [upd_n e, upd_n (by omega)]; exact z2
        · show upd (M.2 0) (13 + k) (nI i) (25 + j) = S.2.2 2 j
          rw [upd_n (by omega)]; exact z3
    · refine mk_step (r := -1) (by simp only [x_rank, f_X3_rank, hz, a1, b1, i10, i00, Option.bind_some]; rfl) (by simp only [m_rank, f_X4_rank, a2, b2, i10, i00, Option.bind_some]; rfl) ?_
      exact ⟨⟨n, hz, V, hF, hw, hc⟩, hRH, hRK, hRT⟩
  · refine mk_step (r := -1) (by simp only [x_rank, f_X3_rank, hz, a1, i00, Option.bind_some]; rfl) (by simp only [m_rank, f_X4_rank, a2, i00, Option.bind_some]; rfl) ?_
    exact ⟨⟨n, hz, V, hF, hw, hc⟩, hRH, hRK, hRT⟩
theorem step_way {N : Nat} (hN : 13000000 ≤ N) (x1 : Int32) (x2 : Int32) (x3 : Int32) {S : XS} {M : MS} (h : Rel S M) : ∃ (r : Int32) (S2 : XS) (M2 : MS), x_way N x1 x2 x3 S = some (r, S2) ∧ m_way N x1 x2 x3 M = some (r, M2) ∧ Rel S2 M2 := by
  obtain ⟨⟨n, hz, V, hF, hw, hc⟩, hRH, hRK, hRT⟩ := h
  have hn := V.1
  rcases c_place (N := N) x1 hn hF.1 with ⟨k, hk, rfl, a1, a2⟩ | ⟨a1, a2⟩
  · rcases c_place (N := N) x2 hn hF.1 with ⟨j, hj, rfl, b1, b2⟩ | ⟨b1, b2⟩
    · rcases in_dec (N := N) (a := 0) (b := 1) x3 (by omega) (by omega) with ⟨i, -, hi, rfl, d1⟩ | ⟨d1, d2⟩
      · have d1 : f_X4_in N (nI i) 0 1 = some 1 := d1
        have d3 : ¬ nI i < 0 := nI_pos (by omega)
        have d4 : nI i ≤ 1 := nI_le (b := 1) hi (by omega)
        obtain ⟨k1, k2, k3, k4⟩ := idx hk hn
        obtain ⟨-, -, m1', -, -, s1⟩ := idm hF hk hn
        have hcont := f_contains (N := N) (x := S.2.2 2 k) (k := j) (by omega)
        have hhas := p_hasWay (N := N) hF hk hn (show j < 32 by omega)
        have h01 : ∀ b : Bool, (if nI i = 1 then (some (1 : Int32)) else some 0) = some (if i = 1 then 1 else 0) := fun _ => by
          rcases (show i = 0 ∨ i = 1 by omega) with rfl | rfl <;> rfl
        by_cases e : (if bt (S.2.2 2 k) j = true then (1 : Int32) else 0) = (if i = 1 then 1 else 0)
        · refine mk_step (r := -2) (by simp only [x_way, f_X3_way, hz, a1, b1, i10, Option.bind_some, if_neg d3, if_pos d4, chk_t k2, k3, hcont, h01 true, if_pos e]; rfl) (by simp only [m_way, f_X4_way, a2, b2, d1, i10, Option.bind_some, hhas, h01 true, if_pos e]; rfl) ?_
          exact ⟨⟨n, hz, V, hF, hw, hc⟩, hRH, hRK, hRT⟩
        · obtain ⟨ah', st', e0, e1, e2, e3, f0, f1, f2, f3, g0, g1, g2, g3, i0, i1, i2, i3, ps', past', hrec, hch, hR'⟩ := p_record (ah := S.1) (wk := S.2.1 10) (ck := S.2.1 12) hN V hF hRH
          have hsub : Sub n ((S.2.2 2 k) ^^^ (1 <<< (nI j &&& 31))) := fun u hu1 hu2 => by
            rw [b_xor, (V.2 k hk).2.2 u hu1 hu2, Sub.bit hj (by omega) u hu1 hu2]; rfl
          have hbc := f_bitCount (N := N) (hsub.mono hn)
          refine mk_step (by simp only [x_way, f_X3_way, hz, a1, b1, i10, Option.bind_some, if_neg d3, if_pos d4, chk_t k2, k3, hcont, h01 true, if_neg e, hrec, upd_s, hbc]; rfl) (by simp only [m_way, f_X4_way, a2, b2, d1, i10, Option.bind_some, hhas, h01 true, if_neg e, hch, m25, chk_t m1', s1, nI_clamp (show 25 + k < 2 ^ 31 by omega), upd_s, (hF.2 k hk).2.2, p_ones (N := N) (by omega)]; rfl) ?_
          refine ⟨⟨n, hz, ⟨hn, fun u hu => ?_⟩, ⟨?_, fun u hu => ?_⟩, fun h => absurd rfl h, fun h => absurd rfl h⟩, hR', hRK, hRT⟩
          · refine ⟨(V.2 u hu).1, (V.2 u hu).2.1, ?_⟩
            show Sub n (upd (S.2.2 2) k ((S.2.2 2 k) ^^^ (1 <<< (nI j &&& 31))) u)
            by_cases e : u = k
            · rw [e, upd_s]; exact hsub
            · rw [upd_n e]; exact (V.2 u hu).2.2
          · show upd (M.2 0) (25 + k) _ 0 = nI n
            rw [upd_n (by omega)]; exact hF.1
          · obtain ⟨z1, z2, z3⟩ := hF.2 u hu
            refine ⟨?_, ?_, ?_⟩
            · show upd (M.2 0) (25 + k) _ (1 + u) = S.2.2 0 u
              rw [upd_n (by omega)]; exact z1
            · show upd (M.2 0) (25 + k) _ (13 + u) = S.2.2 1 u
              rw [upd_n (by omega)]; exact z2
            · show upd (M.2 0) (25 + k) _ (25 + u) = upd (S.2.2 2) k _ u
              by_cases e : u = k
              · rw [e, upd_s, upd_s]
              · rw [upd_n e, upd_n (by omega)]; exact z3
      · have d1 : f_X4_in N x3 0 1 = some 0 := d1
        rcases pk_ix x3 (n := 2) (by omega) with g | g | ⟨i, hi, rfl⟩
        · refine mk_step (r := -1) (by simp only [x_way, f_X3_way, hz, a1, b1, i10, Option.bind_some, if_pos g]; rfl) (by simp only [m_way, f_X4_way, a2, b2, d1, i10, i00, Option.bind_some]; rfl) ?_
          exact ⟨⟨n, hz, V, hF, hw, hc⟩, hRH, hRK, hRT⟩
        · have g1 : ¬ x3 < 0 := fun h => by
            rw [Int32.lt_iff_toInt_lt] at h; rw [Int32.le_iff_toInt_le, nI_toInt (by omega)] at g; simp at h; omega
          have g2 : ¬ x3 ≤ 1 := fun h => by
            rw [Int32.le_iff_toInt_le] at h; rw [Int32.le_iff_toInt_le, nI_toInt (by omega)] at g
            have : (1 : Int32).toInt = 1 := by decide
            omega
          refine mk_step (r := -1) (by simp only [x_way, f_X3_way, hz, a1, b1, i10, Option.bind_some, if_neg g1, if_neg g2]; rfl) (by simp only [m_way, f_X4_way, a2, b2, d1, i10, i00, Option.bind_some]; rfl) ?_
          exact ⟨⟨n, hz, V, hF, hw, hc⟩, hRH, hRK, hRT⟩
        · exact absurd rfl (d2 i (by omega) (by omega))
    · refine mk_step (r := -1) (by simp only [x_way, f_X3_way, hz, a1, b1, i10, i00, Option.bind_some]; rfl) (by simp only [m_way, f_X4_way, a2, b2, i10, i00, Option.bind_some]; rfl) ?_
      exact ⟨⟨n, hz, V, hF, hw, hc⟩, hRH, hRK, hRT⟩
  · refine mk_step (r := -1) (by simp only [x_way, f_X3_way, hz, a1, i00, Option.bind_some]; rfl) (by simp only [m_way, f_X4_way, a2, i00, Option.bind_some]; rfl) ?_
    exact ⟨⟨n, hz, V, hF, hw, hc⟩, hRH, hRK, hRT⟩
