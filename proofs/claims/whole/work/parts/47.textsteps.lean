/-! fault, read -/
theorem step_fault {N : Nat} (hN : 13000000 ≤ N) (x1 : Int32) {S : XS} {M : MS} (h : Rel S M) : ∃ (r : Int32) (S2 : XS) (M2 : MS), x_fault N x1 S = some (r, S2) ∧ m_fault N x1 M = some (r, M2) ∧ Rel S2 M2 := by
  obtain ⟨hRF, hRH, hRK, hRT⟩ := h
  rcases c_rng (N := N) (b := 1) x1 (by omega) with ⟨j, hj, -, b1, b2, b3⟩ | ⟨b3, b4⟩
  · have b2 : x1 ≤ 1 := b2
    have b3 : f_X4_in N x1 0 1 = some 1 := b3
    obtain ⟨c, L, hL1, hL2, T⟩ := txt_of hRT
    rcases p_isField (N := N) (o := S.2.2 21) (r := S.2.2 22) (w := S.2.2 23) (wn := S.2.2 25) (wi := S.2.2 26) (z := S.2.1 7) (fi := S.2.1 14) (fr := S.2.1 15) (at' := S.2.1 16) (wc := S.2.1 17) (sp := M.1 6) (rs := M.1 7) (pl := M.1 8) (ow := M.2 7) (rk := M.2 8) (st := M.2 9) (ta := M.2 10) (ln := M.2 11) (by omega) T with ⟨x, y, o', r', w', z', at'', wn', wi', wc', b, e1, e2, e3, e4, e5⟩ | ⟨n, o', r', w', fi', fr', at'', wn', wi', wc', sp', rs', ow', rk', st', ta', ln', e1, e2, -, -⟩
    · by_cases q0 : x1 = 0
      · refine mk_step (r := x) (by simp only [x_fault, f_X3_fault, if_neg b1, if_pos b2, hL1, e1, Option.bind_some, if_true, if_pos q0]; rfl) (by simp only [m_fault, f_X4_fault, b3, i10, hL2, e2, Option.bind_some, if_pos e3, if_pos q0, e4]; rfl) ?_
        exact ⟨hRF, hRH, hRK, hRT⟩
      · refine mk_step (r := y) (by simp only [x_fault, f_X3_fault, if_neg b1, if_pos b2, hL1, e1, Option.bind_some, if_true, if_neg q0]; rfl) (by simp only [m_fault, f_X4_fault, b3, i10, hL2, e2, Option.bind_some, if_pos e3, if_neg q0, e5]; rfl) ?_
        exact ⟨hRF, hRH, hRK, hRT⟩
    · refine mk_step (r := -4) (by simp only [x_fault, f_X3_fault, if_neg b1, if_pos b2, hL1, e1, Option.bind_some, i10]; rfl) (by simp only [m_fault, f_X4_fault, b3, i10, hL2, e2, Option.bind_some]; rfl) ?_
      exact ⟨hRF, hRH, hRK, hRT⟩
  · have b3 : f_X4_in N x1 0 1 = some 0 := b3
    rcases b4 with b4 | ⟨b4, b5⟩
    · refine mk_step (r := -1) (by simp only [x_fault, f_X3_fault, if_pos b4, Option.bind_some]; rfl) (by simp only [m_fault, f_X4_fault, b3, i00, Option.bind_some]; rfl) ?_
      exact ⟨hRF, hRH, hRK, hRT⟩
    · have b5 : ¬ x1 ≤ 1 := b5
      refine mk_step (r := -1) (by simp only [x_fault, f_X3_fault, if_neg b4, if_neg b5, Option.bind_some]; rfl) (by simp only [m_fault, f_X4_fault, b3, i00, Option.bind_some]; rfl) ?_
      exact ⟨hRF, hRH, hRK, hRT⟩
theorem p_rd26 {N n : Nat} {ow rk st s : Nat → Int32} (hN : 13 ≤ N) (hn : n ≤ 12) (hs : s 0 = nI n) : ∃ s', f_X4_read_L26 N (nI n) ow rk st N 0 s = some s' ∧ FE n ow rk st s' := by
  obtain ⟨y, e1, e2⟩ := for_inv (fun m j t => f_X4_read_L26 N (nI n) ow rk st m j t) n (fun k (t : Nat → Int32) => t 0 = nI n ∧ ∀ v, v < k → t (1 + v) = ow v ∧ t (13 + v) = rk v ∧ t (25 + v) = st v) (fun t => FE n ow rk st t)
    (fun m t h => ⟨t, by simp only [f_X4_read_L26]; rw [if_pos (Int32.le_refl _)], h⟩)
    (fun m k t hk h => Or.inr ⟨upd (upd (upd t (1 + k) (ow k)) (13 + k) (rk k)) (25 + k) (st k), by
      obtain ⟨k1, k2, k3, k4⟩ := idx hk hn
      simp only [f_X4_read_L26, if_neg k1, chk_t k2, k3, m1, m13, m25, chk_t (gi_ok (show 1 + k < 37 by omega) (by omega)), chk_t (gi_ok (show 13 + k < 37 by omega) (by omega)), chk_t (gi_ok (show 25 + k < 37 by omega) (by omega)), nI_clamp (show 1 + k < 2 ^ 31 by omega), nI_clamp (show 13 + k < 2 ^ 31 by omega), nI_clamp (show 25 + k < 2 ^ 31 by omega), k4], by rw [upd_n (by omega), upd_n (by omega), upd_n (by omega)]; exact h.1, fun v hv => by
      by_cases e : v = k
      · rw [e]
        exact ⟨by rw [upd_n (by omega), upd_n (by omega), upd_s], by rw [upd_n (by omega), upd_s], upd_s⟩
      · obtain ⟨a, b, c⟩ := h.2 v (by omega)
        exact ⟨by rw [upd_n (by omega), upd_n (by omega), upd_n (by omega)]; exact a, by rw [upd_n (by omega), upd_n (by omega), upd_n (by omega)]; exact b, by rw [upd_n (by omega), upd_n (by omega), upd_n (by omega)]; exact c⟩⟩)
    0 N s (by omega) (by omega) ⟨hs, fun v hv => by omega⟩
  exact ⟨y, e1, e2⟩
theorem step_read {N : Nat} (hN : 13000000 ≤ N) {S : XS} {M : MS} (h : Rel S M) : ∃ (r : Int32) (S2 : XS) (M2 : MS), x_read N S = some (r, S2) ∧ m_read N M = some (r, M2) ∧ Rel S2 M2 := by
  obtain ⟨⟨n, hz, V, hF, hw, hc⟩, hRH, hRK, hRT⟩ := h
  have hRT' := hRT
  obtain ⟨c, L, hL1, hL2, T⟩ := txt_of hRT'
  rcases p_isField (N := N) (o := S.2.2 21) (r := S.2.2 22) (w := S.2.2 23) (wn := S.2.2 25) (wi := S.2.2 26) (z := S.2.1 7) (fi := S.2.1 14) (fr := S.2.1 15) (at' := S.2.1 16) (wc := S.2.1 17) (sp := M.1 6) (rs := M.1 7) (pl := M.1 8) (ow := M.2 7) (rk := M.2 8) (st := M.2 9) (ta := M.2 10) (ln := M.2 11) (by omega) T with ⟨x, y, o', r', w', z', at'', wn', wi', wc', b, e1, e2, e3, e4, e5⟩ | ⟨n2, o', r', w', fi', fr', at'', wn', wi', wc', sp', rs', ow', rk', st', ta', ln', e1, e2, e3, e4⟩
  · refine mk_step (r := -2) (by simp only [x_read, f_X3_read, hL1, e1, Option.bind_some, if_true]; rfl) (by simp only [m_read, f_X4_read, hL2, e2, Option.bind_some, if_pos e3]; rfl) ?_
    exact ⟨⟨n, hz, V, hF, hw, hc⟩, hRH, hRK, hRT⟩
  · obtain ⟨ah', st2, g0, g1, g2, g3, f0, f1, f2, f3, h0, h1, h2, h3, i0, i1, i2, i3, ps', past', hrec, hch, hR'⟩ := p_record (ah := S.1) (wk := S.2.1 10) (ck := S.2.1 12) hN V hF hRH
    obtain ⟨o3, r3, w3, y1, y2⟩ := p_copyFrom (N := N) (n := n2) (o := o') (r := r') (w := w') (o2 := S.2.2 0) (r2 := S.2.2 1) (w2 := S.2.2 2) (z := nI n) (by omega) e3.1
    obtain ⟨s', q1, q2⟩ := p_rd26 (N := N) (n := n2) (ow := ow') (rk := rk') (st := st') (s := upd (M.2 0) 0 (nI n2)) (by omega) e3.1 upd_s
    have V3 := VF_cong e3 y2
    have F3 : FE n2 o3 r3 w3 s' := ⟨q2.1, fun v hv => by
      obtain ⟨a1, a2, a3⟩ := q2.2 v hv
      obtain ⟨b1, b2, b3⟩ := e4 v hv
      obtain ⟨c1, c2, c3⟩ := y2 v hv
      exact ⟨a1.trans (b1.trans c1.symm), a2.trans (b2.trans c2.symm), a3.trans (b3.trans c3.symm)⟩⟩
    refine mk_step (r := nI n2) (by simp only [x_read, f_X3_read, hL1, e1, Option.bind_some, i10, hz, hrec, y1]; rfl) (by simp only [m_read, f_X4_read, hL2, e2, Option.bind_some, i10, hch, chk_t g037, c0, q1]; rfl) ?_
    exact ⟨⟨n2, rfl, V3, F3, fun h => absurd rfl h, fun h => absurd rfl h⟩, hR', hRK, hRT⟩
