/-! add, drop, keep, restore, undo, type, clearText -/
theorem step_add {N : Nat} (hN : 13000000 ≤ N) (x1 : Int32) (x2 : Int32) {S : XS} {M : MS} (h : Rel S M) : ∃ (r : Int32) (S2 : XS) (M2 : MS), x_add N x1 x2 S = some (r, S2) ∧ m_add N x1 x2 M = some (r, M2) ∧ Rel S2 M2 := by
  obtain ⟨⟨n, hz, V, hF, hw, hc⟩, hRH, hRK, hRT⟩ := h
  have hn := V.1
  rcases c_player (N := N) x1 with ⟨i, hi, rfl, a1, a2⟩ | ⟨a1, a2⟩
  · rcases c_rank (N := N) x2 with ⟨j, hj, rfl, b1, b2⟩ | ⟨b1, b2⟩
    · by_cases e : n = 12
      · subst e
        refine mk_step (r := -3) (by simp only [x_add, f_X3_add, hz, a1, b1, i10, Option.bind_some, if_neg (show ¬ nI 12 < 12 by decide)]; rfl) (by simp only [m_add, f_X4_add, a2, b2, i10, Option.bind_some, chk_t g037, c0, hF.1, if_pos (show nI 12 = 12 from rfl)]; rfl) ?_
        exact ⟨⟨12, rfl, V, hF, hw, hc⟩, hRH, hRK, hRT⟩
      · have hlt : nI n < 12 := nI_lt (b := 12) (by omega) (by omega)
        have hne : ¬ nI n = 12 := nI_ne (b := 12) (by omega) (by omega) e
        have hnl : ¬ (12 : Int32) ≤ nI n := nI_ge (b := 12) (by omega) (by omega)
        obtain ⟨ah', st', e0, e1, e2, e3, f0, f1, f2, f3, g0, g1, g2, g3, i0, i1, i2, i3, ps', past', hrec, hch, hR'⟩ := p_record (ah := S.1) (wk := S.2.1 10) (ck := S.2.1 12) hN V hF hRH
        have q1 := gi_ok (show 1 + n < 37 by omega) (by omega)
        have q2 := gi_ok (show 13 + n < 37 by omega) (by omega)
        have q3 := gi_ok (show 25 + n < 37 by omega) (by omega)
        have q4 := gi_ok (show n < 12 by omega) (by omega)
        refine mk_step (r := nI n) (by simp only [x_add, f_X3_add, hz, a1, b1, i10, Option.bind_some, if_pos hlt, hrec, f_X0_append, if_neg hnl, chk_t q4, nI_clamp (show n < 2 ^ 31 by omega), nI_1, nI_pred]; rfl)
          (by simp only [m_add, f_X4_add, a2, b2, i10, Option.bind_some, chk_t g037, c0, hF.1, if_neg hne, hch, m1, m13, m25, chk_t q1, chk_t q2, chk_t q3, nI_clamp (show 1 + n < 2 ^ 31 by omega), nI_clamp (show 13 + n < 2 ^ 31 by omega), nI_clamp (show 25 + n < 2 ^ 31 by omega), upd_n (show 0 ≠ 1 + n by omega), upd_n (show 0 ≠ 13 + n by omega), upd_n (show 0 ≠ 25 + n by omega), nI_1]; rfl) ?_
        refine ⟨⟨n + 1, rfl, ⟨by omega, fun u hu => ?_⟩, ⟨rfl, fun u hu => ?_⟩, fun h => absurd rfl h, fun h => absurd rfl h⟩, hR', hRK, hRT⟩
        · show (upd (S.2.2 0) n (nI i) u = 0 ∨ upd (S.2.2 0) n (nI i) u = 1) ∧ (upd (S.2.2 1) n (nI j) u = nI (rkN (upd (S.2.2 1) n (nI j)) u) ∧ rkN (upd (S.2.2 1) n (nI j)) u < 6) ∧ Sub (n + 1) (upd (S.2.2 2) n 0 u)
          by_cases eu : u = n
          · subst eu
            refine ⟨?_, rkN_nI upd_s hj, ?_⟩
            · rw [upd_s]
              rcases (show i = 0 ∨ i = 1 by omega) with rfl | rfl
              · exact Or.inl rfl
              · exact Or.inr rfl
            · rw [upd_s]; exact Sub.zero
          · obtain ⟨v1, v2, v3⟩ := V.2 u (by omega)
            refine ⟨by rw [upd_n eu]; exact v1, rkN_nI (j := rkN (S.2.2 1) u) (by rw [upd_n eu]; exact v2.1) v2.2, by rw [upd_n eu]; exact v3.mono (by omega)⟩
        · show upd (upd (upd (upd (M.2 0) (1 + n) (nI i)) (13 + n) (nI j)) (25 + n) 0) 0 (nI (n + 1)) (1 + u) = upd (S.2.2 0) n (nI i) u ∧ upd (upd (upd (upd (M.2 0) (1 + n) (nI i)) (13 + n) (nI j)) (25 + n) 0) 0 (nI (n + 1)) (13 + u) = upd (S.2.2 1) n (nI j) u ∧ upd (upd (upd (upd (M.2 0) (1 + n) (nI i)) (13 + n) (nI j)) (25 + n) 0) 0 (nI (n + 1)) (25 + u) = upd (S.2.2 2) n 0 u
          by_cases eu : u = n
          · subst eu
            refine ⟨?_, ?_, ?_⟩
            · rw [upd_n (by omega), upd_n (by omega), upd_n (by omega), upd_s, upd_s]
            · rw [upd_n (by omega), upd_n (by omega), upd_s, upd_s]
            · rw [upd_n (by omega), upd_s, upd_s]
          · obtain ⟨z1, z2, z3⟩ := hF.2 u (by omega)
            refine ⟨?_, ?_, ?_⟩
            · rw [upd_n (by omega), upd_n (by omega), upd_n (by omega), upd_n (by omega), upd_n eu]; exact z1
            · rw [upd_n (by omega), upd_n (by omega), upd_n (by omega), upd_n (by omega), upd_n eu]; exact z2
            · rw [upd_n (by omega), upd_n (by omega), upd_n (by omega), upd_n (by omega), upd_n eu]; exact z3
    · refine mk_step (r := -1) (by simp only [x_add, f_X3_add, a1, b1, i10, i00, Option.bind_some]; rfl) (by simp only [m_add, f_X4_add, a2, b2, i10, i00, Option.bind_some]; rfl) ?_
      exact ⟨⟨n, hz, V, hF, hw, hc⟩, hRH, hRK, hRT⟩
  · refine mk_step (r := -1) (by simp only [x_add, f_X3_add, a1, i00, Option.bind_some]; rfl) (by simp only [m_add, f_X4_add, a2, i00, Option.bind_some]; rfl) ?_
    exact ⟨⟨n, hz, V, hF, hw, hc⟩, hRH, hRK, hRT⟩
theorem step_keep {N : Nat} (hN : 13000000 ≤ N) {S : XS} {M : MS} (h : Rel S M) : ∃ (r : Int32) (S2 : XS) (M2 : MS), x_keep N S = some (r, S2) ∧ m_keep N M = some (r, M2) ∧ Rel S2 M2 := by
  obtain ⟨⟨n, hz, V, hF, hw, hc⟩, hRH, hRK, hRT⟩ := h
  obtain ⟨o', r', w', y1, y2⟩ := p_copyFrom (N := N) (n := n) (o := S.2.2 0) (r := S.2.2 1) (w := S.2.2 2) (o2 := S.2.2 15) (r2 := S.2.2 16) (w2 := S.2.2 17) (z := S.2.1 5) (by omega) V.1
  obtain ⟨c, q1, q2⟩ := p_copies (N := N) (a := M.2 0) (b := M.2 2) (by omega)
  obtain ⟨V', F'⟩ := FQ_copy V hF y2
  refine mk_step (r := nI n) (by simp only [x_keep, f_X3_keep, hz, y1, Option.bind_some]; rfl) (by simp only [m_keep, f_X4_keep, q1, Option.bind_some, chk_t g037, c0, hF.1]; rfl) ?_
  exact ⟨⟨n, hz, V, hF, hw, hc⟩, hRH, Or.inr ⟨rfl, rfl, n, rfl, V', FE_s V.1 F' (fun j hj => q2 j hj)⟩, hRT⟩
theorem step_restore {N : Nat} (hN : 13000000 ≤ N) {S : XS} {M : MS} (h : Rel S M) : ∃ (r : Int32) (S2 : XS) (M2 : MS), x_restore N S = some (r, S2) ∧ m_restore N M = some (r, M2) ∧ Rel S2 M2 := by
  obtain ⟨⟨n, hz, V, hF, hw, hc⟩, hRH, hRK, hRT⟩ := h
  rcases hRK with ⟨h1, h2⟩ | ⟨h1, h2, n2, hz2, V2, hF2⟩
  · refine mk_step (r := -2) (by simp only [x_restore, f_X3_restore, h1, i00, Option.bind_some]; rfl) (by simp only [m_restore, f_X4_restore, h2, i00, Option.bind_some]; rfl) ?_
    exact ⟨⟨n, hz, V, hF, hw, hc⟩, hRH, Or.inl ⟨h1, h2⟩, hRT⟩
  · have hz2 : S.2.1 5 = nI n2 := hz2
    have V2 : VF n2 (S.2.2 15) (S.2.2 16) (S.2.2 17) := V2
    have hF2 : FE n2 (S.2.2 15) (S.2.2 16) (S.2.2 17) (M.2 2) := hF2
    obtain ⟨o', r', w', y1, y2⟩ := p_copyFrom (N := N) (n := n2) (o := S.2.2 15) (r := S.2.2 16) (w := S.2.2 17) (o2 := S.2.2 0) (r2 := S.2.2 1) (w2 := S.2.2 2) (z := nI n) (by omega) V2.1
    obtain ⟨c, q1, q2⟩ := p_copies (N := N) (a := M.2 2) (b := M.2 0) (by omega)
    obtain ⟨V', F'⟩ := FQ_copy V2 hF2 y2
    obtain ⟨ah', st', e0, e1, e2, e3, f0, f1, f2, f3, g0, g1, g2, g3, i0, i1, i2, i3, ps', past', hrec, hch, hR'⟩ := p_record (ah := S.1) (wk := S.2.1 10) (ck := S.2.1 12) hN V hF hRH
    have hc0 : c 0 = nI n2 := by rw [q2 0 (by omega)]; exact hF2.1
    refine mk_step (r := nI n2) (by simp only [x_restore, f_X3_restore, h1, i10, hz, hz2, hrec, y1, Option.bind_some]; rfl) (by simp only [m_restore, f_X4_restore, h2, i10, hch, q1, Option.bind_some, chk_t g037, c0, hc0]; rfl) ?_
    exact ⟨⟨n2, rfl, V', FE_s V2.1 F' (fun j hj => q2 j hj), fun h => absurd rfl h, fun h => absurd rfl h⟩, hR', Or.inr ⟨h1, h2, n2, hz2, V2, hF2⟩, hRT⟩
theorem p_un22 {N h : Nat} {s past : Nat → Int32} (hN : 38 ≤ N) (hh : h < 4) : ∃ c, f_X4_undo_L22 N past (nI h) N 0 s = some c ∧ ∀ j, j < 37 → c j = past (37 * h + j) := by
  obtain ⟨c, e1, e2⟩ := for_inv (fun m k t => f_X4_undo_L22 N past (nI h) m k t) 37 (fun k (t : Nat → Int32) => ∀ j, j < k → t j = past (37 * h + j)) (fun t => ∀ j, j < 37 → t j = past (37 * h + j))
    (fun m t ht => ⟨t, by simp only [f_X4_undo_L22]; rw [if_pos (by decide)], ht⟩)
    (fun m k t hk ht => Or.inr ⟨upd t k (past (37 * h + k)), by
      have k1 : ¬ (37 : Int32) ≤ nI k := nI_ge (b := 37) hk (by omega)
      have k5 : (37 : Int32) * nI h + nI k = nI (37 * h + k) := by rw [show (37 : Int32) * nI h = nI (37 * h) from pk_mul 37 h, nI_add]
      simp only [f_X4_undo_L22, if_neg k1, chk_t (gi_ok hk (by omega)), k5, chk_t (gi_ok (show 37 * h + k < 148 by omega) (by omega)), nI_clamp (show k < 2 ^ 31 by omega), nI_clamp (show 37 * h + k < 2 ^ 31 by omega), nI_1], fun j hj => by
      unfold upd
      split
      · next e => rw [e]
      · exact ht j (by omega)⟩)
    0 N s (by omega) (by omega) (fun j hj => by omega)
  exact ⟨c, e1, e2⟩
theorem step_undo {N : Nat} (hN : 13000000 ≤ N) {S : XS} {M : MS} (h : Rel S M) : ∃ (r : Int32) (S2 : XS) (M2 : MS), x_undo N S = some (r, S2) ∧ m_undo N M = some (r, M2) ∧ Rel S2 M2 := by
  obtain ⟨⟨n, hz, V, hF, hw, hc⟩, ⟨t, ht, hs, hp, hh⟩, hRK, hRT⟩ := h
  by_cases e0 : t = 0
  · subst e0
    refine mk_step (r := -2) (by simp only [x_undo, f_X3_undo, hs, if_pos (show nI 0 ≤ 0 by decide), Option.bind_some]; rfl) (by simp only [m_undo, f_X4_undo, hp, if_pos (show nI 0 = 0 from rfl), Option.bind_some]; rfl) ?_
    exact ⟨⟨n, hz, V, hF, hw, hc⟩, ⟨0, by omega, rfl, rfl, fun i hi => by omega⟩, hRK, hRT⟩
  · obtain ⟨c, q1, q2⟩ := p_un22 (N := N) (h := t - 1) (s := M.2 0) (past := M.2 1) (by omega) (by omega)
    have hpred : nI t - 1 = nI (t - 1) := by
      obtain ⟨t, rfl⟩ : ∃ u, t = u + 1 := ⟨t - 1, by omega⟩
      exact nI_pred t
    have hne : ¬ nI t = 0 := nI_ne0 (by omega) (by omega)
    have hm : m_undo N M = some (nI (t - 1), (upd M.1 1 (nI (t - 1)), updA M.2 0 c)) := by
      simp only [m_undo, f_X4_undo, hp, if_neg hne, hpred, q1, Option.bind_some]
    obtain ⟨n2, hz2, V2, hF2⟩ := hh (t - 1) (by omega)
    rcases (show t = 1 ∨ t = 2 ∨ t = 3 ∨ t = 4 by omega) with rfl | rfl | rfl | rfl
    · have hz2 : S.2.1 1 = nI n2 := hz2
      have V2 : VF n2 (S.2.2 3) (S.2.2 4) (S.2.2 5) := V2
      obtain ⟨o', r', w', y1, y2⟩ := p_copyFrom (N := N) (n := n2) (o := S.2.2 3) (r := S.2.2 4) (w := S.2.2 5) (o2 := S.2.2 0) (r2 := S.2.2 1) (w2 := S.2.2 2) (z := nI n) (by omega) V2.1
      obtain ⟨V', F'⟩ := FQ_copy V2 hF2 y2
      refine mk_step (r := 0) (by simp only [x_undo, f_X3_undo, hs, hz, hz2, if_neg (show ¬ nI 1 ≤ 0 by decide), if_pos (show nI 1 ≤ 4 by decide), if_pos (show nI 1 - 1 = 0 by decide), y1, f_X3_forgetFindings, Option.bind_some]; rfl) hm ?_
      exact ⟨⟨n2, rfl, V', FE_s V2.1 F' (fun j hj => q2 j hj), fun h => absurd rfl h, fun h => absurd rfl h⟩, ⟨0, by omega, rfl, rfl, fun i hi => by omega⟩, hRK, hRT⟩
    · have hz2 : S.2.1 2 = nI n2 := hz2
      have V2 : VF n2 (S.2.2 6) (S.2.2 7) (S.2.2 8) := V2
      obtain ⟨o', r', w', y1, y2⟩ := p_copyFrom (N := N) (n := n2) (o := S.2.2 6) (r := S.2.2 7) (w := S.2.2 8) (o2 := S.2.2 0) (r2 := S.2.2 1) (w2 := S.2.2 2) (z := nI n) (by omega) V2.1
      obtain ⟨V', F'⟩ := FQ_copy V2 hF2 y2
      refine mk_step (r := 1) (by simp only [x_undo, f_X3_undo, hs, hz, hz2, if_neg (show ¬ nI 2 ≤ 0 by decide), if_pos (show nI 2 ≤ 4 by decide), if_neg (show ¬ nI 2 - 1 = 0 by decide), if_pos (show nI 2 - 1 = 1 by decide), y1, f_X3_forgetFindings, Option.bind_some]; rfl) hm ?_
      exact ⟨⟨n2, rfl, V', FE_s V2.1 F' (fun j hj => q2 j hj), fun h => absurd rfl h, fun h => absurd rfl h⟩, ⟨1, by omega, rfl, rfl, fun i hi => hh i (by omega)⟩, hRK, hRT⟩
    · have hz2 : S.2.1 3 = nI n2 := hz2
      have V2 : VF n2 (S.2.2 9) (S.2.2 10) (S.2.2 11) := V2
      obtain ⟨o', r', w', y1, y2⟩ := p_copyFrom (N := N) (n := n2) (o := S.2.2 9) (r := S.2.2 10) (w := S.2.2 11) (o2 := S.2.2 0) (r2 := S.2.2 1) (w2 := S.2.2 2) (z := nI n) (by omega) V2.1
      obtain ⟨V', F'⟩ := FQ_copy V2 hF2 y2
      refine mk_step (r := 2) (by simp only [x_undo, f_X3_undo, hs, hz, hz2, if_neg (show ¬ nI 3 ≤ 0 by decide), if_pos (show nI 3 ≤ 4 by decide), if_neg (show ¬ nI 3 - 1 = 0 by decide), if_neg (show ¬ nI 3 - 1 = 1 by decide), if_pos (show nI 3 - 1 = 2 by decide), y1, f_X3_forgetFindings, Option.bind_some]; rfl) hm ?_
      exact ⟨⟨n2, rfl, V', FE_s V2.1 F' (fun j hj => q2 j hj), fun h => absurd rfl h, fun h => absurd rfl h⟩, ⟨2, by omega, rfl, rfl, fun i hi => hh i (by omega)⟩, hRK, hRT⟩
    · have hz2 : S.2.1 4 = nI n2 := hz2
      have V2 : VF n2 (S.2.2 12) (S.2.2 13) (S.2.2 14) := V2
      obtain ⟨o', r', w', y1, y2⟩ := p_copyFrom (N := N) (n := n2) (o := S.2.2 12) (r := S.2.2 13) (w := S.2.2 14) (o2 := S.2.2 0) (r2 := S.2.2 1) (w2 := S.2.2 2) (z := nI n) (by omega) V2.1
      obtain ⟨V', F'⟩ := FQ_copy V2 hF2 y2
      refine mk_step (r := 3) (by simp only [x_undo, f_X3_undo, hs, hz, hz2, if_neg (show ¬ nI 4 ≤ 0 by decide), if_pos (show nI 4 ≤ 4 by decide), if_neg (show ¬ nI 4 - 1 = 0 by decide), if_neg (show ¬ nI 4 - 1 = 1 by decide), if_neg (show ¬ nI 4 - 1 = 2 by decide), if_pos (show nI 4 - 1 = 3 by decide), y1, f_X3_forgetFindings, Option.bind_some]; rfl) hm ?_
      exact ⟨⟨n2, rfl, V', FE_s V2.1 F' (fun j hj => q2 j hj), fun h => absurd rfl h, fun h => absurd rfl h⟩, ⟨3, by omega, rfl, rfl, fun i hi => hh i (by omega)⟩, hRK, hRT⟩
theorem step_clearText {N : Nat} (hN : 13000000 ≤ N) {S : XS} {M : MS} (h : Rel S M) : ∃ (r : Int32) (S2 : XS) (M2 : MS), x_clearText N S = some (r, S2) ∧ m_clearText N M = some (r, M2) ∧ Rel S2 M2 := by
  obtain ⟨hRF, hRH, hRK, ⟨L, h1, h2, h3, h4⟩⟩ := h
  refine mk_step (r := nI L) (by simp only [x_clearText, f_X3_clearText, h2, Option.bind_some]; rfl) (by simp only [m_clearText, f_X4_clearText, h3, Option.bind_some]; rfl) ?_
  exact ⟨hRF, hRH, hRK, 0, by omega, rfl, rfl, fun k hk => by omega⟩
theorem step_type {N : Nat} (hN : 13000000 ≤ N) (x1 : Int32) {S : XS} {M : MS} (h : Rel S M) : ∃ (r : Int32) (S2 : XS) (M2 : MS), x_type N x1 S = some (r, S2) ∧ m_type N x1 M = some (r, M2) ∧ Rel S2 M2 := by
  obtain ⟨hRF, hRH, hRK, ⟨L, h1, h2, h3, h4⟩⟩ := h
  rcases in_dec (N := N) (a := 32) (b := 126) x1 (by omega) (by omega) with ⟨c, hc1, hc2, rfl, a2⟩ | ⟨a2, hno⟩
  · have a2 : f_X4_in N (nI c) 32 126 = some 1 := a2
    have b1 : ¬ nI c < 32 := nI_nlt (b := 32) hc1 (by omega)
    have b2 : nI c ≤ 126 := nI_le (b := 126) hc2 (by omega)
    by_cases e : L = 80
    · subst e
      refine mk_step (r := -3) (by simp only [x_type, f_X3_type, h2, if_neg b1, if_pos b2, if_neg (show ¬ nI 80 < 80 by decide), Option.bind_some]; rfl) (by simp only [m_type, f_X4_type, a2, i10, h3, if_pos (show nI 80 = 80 from rfl), Option.bind_some]; rfl) ?_
      exact ⟨hRF, hRH, hRK, 80, h1, rfl, rfl, h4⟩
    · have hlt : nI L < 80 := nI_lt (b := 80) (by omega) (by omega)
      have hne : ¬ nI L = 80 := nI_ne (b := 80) (by omega) (by omega) e
      have hnl : ¬ (80 : Int32) ≤ nI L := nI_ge (b := 80) (by omega) (by omega)
      have hg := gi_ok (show L < 80 by omega) (by omega)
      have hch : ((Int32.toUInt32 (nI c)) % 65536).toInt32 = nI c := by
        have := pk_char (nI c)
        rw [this, pk_tn (by omega), Nat.mod_eq_of_lt (by omega)]
      have hvn : vp_nar .char (nI c) = nI c := by
        rw [vp_nar_char, ← hch]
        have := pk_vc (nI c)
        rw [hch] at this ⊢
        rw [vp_nar_char] at this
        exact this
      refine mk_step (r := nI (L + 1)) (by simp only [x_type, f_X3_type, h2, if_neg b1, if_pos b2, if_pos hlt, f_X2_append, if_neg hnl, chk_t hg, hch, hvn, nI_clamp (show L < 2 ^ 31 by omega), nI_1, Option.bind_some]; rfl) (by simp only [m_type, f_X4_type, a2, i10, h3, if_neg hne, chk_t hg, nI_clamp (show L < 2 ^ 31 by omega), nI_1, Option.bind_some]; rfl) ?_
      refine ⟨hRF, hRH, hRK, L + 1, by omega, rfl, rfl, fun k hk => ?_⟩
      show ∃ c', 32 ≤ c' ∧ c' ≤ 126 ∧ upd (S.2.2 24) L (nI c) k = nI c' ∧ upd (M.2 3) L (nI c) k = nI c'
      by_cases e : k = L
      · exact ⟨c, hc1, hc2, by rw [e, upd_s], by rw [e, upd_s]⟩
      · rw [upd_n e, upd_n e]; exact h4 k (by omega)
  · have a2 : f_X4_in N x1 32 126 = some 0 := a2
    have hx : x_type N x1 S = some (-1, (S.1, upd (S.2.1) 13 (S.2.1 13), updA (S.2.2) 24 (S.2.2 24))) := by
      by_cases e1 : x1 < 32
      · simp only [x_type, f_X3_type, if_pos e1, Option.bind_some]
      · by_cases e2 : x1 ≤ 126
        · exfalso
          have h32 : (32 : Int32).toInt = 32 := by decide
          have h126 : (126 : Int32).toInt = 126 := by decide
          rw [Int32.lt_iff_toInt_lt, h32] at e1
          rw [Int32.le_iff_toInt_le, h126] at e2
          refine hno x1.toInt.toNat (by omega) (by omega) ?_
          apply Int32.toInt_inj.mp
          rw [nI_toInt (by omega)]
          omega
        · simp only [x_type, f_X3_type, if_neg e1, if_neg e2, Option.bind_some]
    refine mk_step (r := -1) hx (by simp only [m_type, f_X4_type, a2, i00, Option.bind_some]; rfl) ?_
    exact ⟨hRF, hRH, hRK, L, h1, h2, h3, h4⟩
