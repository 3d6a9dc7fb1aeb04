theorem cn_zero (n : Nat) : cn (bt 0) n = 0 := by
  induction n with
  | zero => rfl
  | succ n ih => simp only [cn]; rw [ih, b_0]; rfl
theorem step_play {N : Nat} (hN : 13000000 ≤ N) (x1 : Int32) (x2 : Int32) {S : XS} {M : MS} (h : Rel S M) : ∃ (r : Int32) (S2 : XS) (M2 : MS), x_play N x1 x2 S = some (r, S2) ∧ m_play N x1 x2 M = some (r, M2) ∧ Rel S2 M2 := by
  obtain ⟨⟨n, hz, V, hF, hw, hc⟩, hRH, hRK, hRT⟩ := h
  have hn := V.1
  obtain ⟨R, -, hR⟩ := p_winsOf0 (N := N) (by omega) V
  have hw' : ¬ S.2.1 10 = 0 → S.2.1 11 = R := fun h => win_uniq V (hw h) hR
  rcases c_place (N := N) x1 hn hF.1 with ⟨k, hk, rfl, a1, a2⟩ | ⟨a1, a2⟩
  · rcases c_rng (N := N) (b := 3) x2 (by omega) with ⟨j, hj, -, b1, b2, b3⟩ | ⟨b3, b4⟩
    · have b2 : x2 ≤ 3 := b2
      have b3 : f_X4_in N x2 0 3 = some 1 := b3
      obtain ⟨o1, r1, w1, z1, wk1, wv1, ck1, ch1, e1, e5, e2, e3, e4⟩ := p_findChoices (N := N) (ot := S.2.2 18) (rt := S.2.2 19) (wt := S.2.2 20) (z := S.2.1 6) (by omega) V hR hw' hc
      obtain ⟨s2, g, y1, y3, y5, ch2, ws2, d1, d2, d3, d4⟩ := p_chooses (meas := M.2 4) (a1 := M.1 3) (a3 := M.1 4) (a5 := M.1 5) (ch := M.2 5) (ws := M.2 6) hN V hF hR
      have hcr1 := cho_cr V e4
      have hcc := cho_uniq V e4 d3
      obtain ⟨met, l, x, p1, p2, p3, p4, p5⟩ := p_pl (N := N) hn hcr1 hcc n 0 0 k (nI k) N N (by omega) (by omega) (by omega) (cn_zero n) Sub.zero (Or.inr ⟨k, hk, rfl⟩) hk (fun v hv hb => by rw [b_0] at hb; exact absurd hb (by decide))
      have p1 : f_X3_play_L37 N (nI n) ch1 N 0 (nI k) (nI k) 0 = some (met, nI l, x) := p1
      have hge := set_ge hn hR.1
      have hrel : RFp (nI n) (S.2.2 0) (S.2.2 1) (S.2.2 2) wk1 wv1 ck1 ch1 s2 := ⟨n, rfl, V, d2, fun _ => Eq.subst (motive := fun t => WinS n (S.2.2 0) (S.2.2 1) (S.2.2 2) t) e2.symm hR, fun _ => ⟨e4, e5⟩⟩
      rw [← hz] at hrel
      by_cases q0 : x2 = 0
      · refine mk_step (r := nI (cn (bt met) 12)) (by simp only [x_play, f_X3_play, hz, a1, i10, Option.bind_some, if_neg b1, if_pos b2, e1, p1, if_pos q0, f_bitCount (N := N) (p3.mono hn)]; rfl) (by simp only [m_play, f_X4_play, a2, b3, i10, Option.bind_some, d1, p2, if_pos q0, sm, p_ones (N := N) (x := met) (by omega)]; rfl) ?_
        exact ⟨hrel, hRH, hRK, hRT⟩
      · rcases p5 with rfl | ⟨u, hu, rfl, hmu, hcl⟩
        · have hneg : ¬ (0 : Int32) ≤ -4 := by decide
          by_cases q3 : x2 = 3
          · obtain ⟨l1, l2, l3, l4⟩ := idx p4 hn
            obtain ⟨zz, -, -, ss, -, -⟩ := idm d2 p4 hn
            refine mk_step (r := 1 - S.2.2 0 l) (by simp only [x_play, f_X3_play, hz, a1, i10, Option.bind_some, if_neg b1, if_pos b2, e1, p1, if_neg q0, has_no, if_true, if_pos q3, chk_t l2, l3]; rfl) (by simp only [m_play, f_X4_play, a2, b3, i10, Option.bind_some, d1, p2, if_neg q0, if_pos hge, if_neg hneg, if_pos q3, m1, chk_t zz, ss, sm]; rfl) ?_
            exact ⟨hrel, hRH, hRK, hRT⟩
          · refine mk_step (r := -4) (by simp only [x_play, f_X3_play, hz, a1, i10, Option.bind_some, if_neg b1, if_pos b2, e1, p1, if_neg q0, has_no, if_true, if_neg q3]; rfl) (by simp only [m_play, f_X4_play, a2, b3, i10, Option.bind_some, d1, p2, if_neg q0, if_pos hge, if_neg hneg, if_neg q3, sm]; rfl) ?_
            exact ⟨hrel, hRH, hRK, hRT⟩
        · have hpos : (0 : Int32) ≤ nI u := (nI_leI (a := 0) (by omega) (by omega)).mpr (Nat.zero_le _)
          obtain ⟨y, t1, t2⟩ := p_ring (N := N) (P := fun v => v < n ∧ bt met v = true) (by omega) V d2 hcc ⟨hu, hmu⟩ (fun v hv => ⟨hv.1, by
            obtain ⟨z, z1, z2, z3⟩ := hcl v hv.1 hv.2
            exact ⟨z, ⟨z1, z3⟩, z2⟩⟩)
          by_cases q1 : x2 = 1
          · refine mk_step (r := nI u) (by simp only [x_play, f_X3_play, hz, a1, i10, Option.bind_some, if_neg b1, if_pos b2, e1, p1, if_neg q0, has_ok hn hu, if_pos q1]; rfl) (by simp only [m_play, f_X4_play, a2, b3, i10, Option.bind_some, d1, p2, if_neg q0, if_pos hge, if_pos hpos, t2, if_pos q1, sm]; rfl) ?_
            exact ⟨hrel, hRH, hRK, hRT⟩
          · by_cases q2 : x2 = 2
            · refine mk_step (r := y) (by simp only [x_play, f_X3_play, hz, a1, i10, Option.bind_some, if_neg b1, if_pos b2, e1, p1, if_neg q0, has_ok hn hu, if_neg q1, t1, if_pos q2]; rfl) (by simp only [m_play, f_X4_play, a2, b3, i10, Option.bind_some, d1, p2, if_neg q0, if_pos hge, if_pos hpos, t2, if_neg q1, if_pos q2, sm]; rfl) ?_
              exact ⟨hrel, hRH, hRK, hRT⟩
            · refine mk_step (r := y - y / 2 * 2) (by simp only [x_play, f_X3_play, hz, a1, i10, Option.bind_some, if_neg b1, if_pos b2, e1, p1, if_neg q0, has_ok hn hu, if_neg q1, t1, if_neg q2]; rfl) (by simp only [m_play, f_X4_play, a2, b3, i10, Option.bind_some, d1, p2, if_neg q0, if_pos hge, if_pos hpos, t2, if_neg q1, if_neg q2, sm]; rfl) ?_
              exact ⟨hrel, hRH, hRK, hRT⟩
    · have b3 : f_X4_in N x2 0 3 = some 0 := b3
      rcases b4 with b4 | ⟨b4, b5⟩
      · refine mk_step (r := -1) (by simp only [x_play, f_X3_play, hz, a1, i10, Option.bind_some, if_pos b4]; rfl) (by simp only [m_play, f_X4_play, a2, b3, i10, i00, Option.bind_some]; rfl) ?_
        exact ⟨⟨n, hz, V, hF, hw, hc⟩, hRH, hRK, hRT⟩
      · have b5 : ¬ x2 ≤ 3 := b5
        refine mk_step (r := -1) (by simp only [x_play, f_X3_play, hz, a1, i10, Option.bind_some, if_neg b4, if_neg b5]; rfl) (by simp only [m_play, f_X4_play, a2, b3, i10, i00, Option.bind_some]; rfl) ?_
        exact ⟨⟨n, hz, V, hF, hw, hc⟩, hRH, hRK, hRT⟩
  · refine mk_step (r := -1) (by simp only [x_play, f_X3_play, hz, a1, i00, Option.bind_some]; rfl) (by simp only [m_play, f_X4_play, a2, i00, Option.bind_some]; rfl) ?_
    exact ⟨⟨n, hz, V, hF, hw, hc⟩, hRH, hRK, hRT⟩
