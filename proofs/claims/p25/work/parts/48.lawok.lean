/-! the law's own run answers true -/
theorem LW_same {n : Nat} {S S2 : XS} {g w r e : Nat → Int32} (h : LW n S g w r e) (h1 : RS n S2) (h2 : Same S S2) : LW n S2 g w r e := by
  obtain ⟨hn, hg, hS, hT, hq⟩ := h
  refine ⟨hn, hg, h1, by rw [h2.2.1]; exact hT, fun k hk => ?_⟩
  rw [h2.1.1, h2.1.2.1, h2.1.2.2]
  exact hq k hk
theorem p_cell {L : Nat} {xs : Nat → Int32} {j : Nat} (hL : L ≤ 260) (hj : j < 1000) : ∃ v, f_L_cell L xs (nI j) = some v := by
  unfold f_L_cell
  by_cases e : nI L ≤ nI j
  · exact ⟨_, if_pos e⟩
  · have hlt : j < L := by
      apply Classical.byContradiction
      intro h
      exact e ((nI_leI (by omega) (by omega)).mpr (by omega))
    exact ⟨_, by rw [if_neg (show ¬ Int32.ofNat L ≤ nI j from e), chk_t (gi_ok hlt (by omega))]⟩
theorem ok_law {N L : Nat} {xs : Nat → Int32} {S : XS} {g w r e : Nat → Int32} (hN : 200 ≤ N) (hL : L ≤ 260) (h : LW 0 S g w r e) : f_L_law N L xs S g w r e = some 1 := by
  have acts : ∀ {n z S g w r e}, LW n S g w r e → OkA (f_L_acts N z S g w r e) := fun h => ok_acts (by omega) h (fun y hy => ok_reads (by omega) h hy)
  have isso : ∀ {n x S g w r e}, LW n S g w r e → ∃ S2, f_L_isSo N x S g w r e = some (1, S2) ∧ LW n S2 g w r e := fun {n x S g w r e} h => by
    obtain ⟨S2, a1, a2, a3⟩ := p_isSo (N := N) (x5 := x) (by omega) h.1 h.2.1 h.2.2.1 h.2.2.2.1 h.2.2.2.2
    exact ⟨S2, a1, LW_same h a2 a3⟩
  have h10 : ¬ (1 : Int32) = 0 := by decide
  have hd0 : decide (60 + 0 ≤ 10000) = true := decide_eq_true (by omega)
  obtain ⟨S0, c1, c2, c3⟩ := q_co0 (N := N) (by omega) h.2.2.1
  have h0 := LW_same h c2 c3
  obtain ⟨t1, s1, s2⟩ := for_inv (fun m k (t : LT) => f_L_law_L47 N L xs 60 m t.1 k t.2.1 t.2.2.1 t.2.2.2.1 t.2.2.2.2.1 t.2.2.2.2.2) 9
    (fun k t => t.1 = 1 ∧ ∃ n, LW n t.2.1 t.2.2.1 t.2.2.2.1 t.2.2.2.2.1 t.2.2.2.2.2) (fun t => t.1 = 1 ∧ ∃ n, LW n t.2.1 t.2.2.1 t.2.2.2.1 t.2.2.2.2.1 t.2.2.2.2.2)
    (fun m t ht => ⟨t, by simp only [f_L_law_L47]; rw [if_pos (show (9 : Int32) ≤ nI 9 by decide)], ht⟩)
    (fun m k t hk ht => by
      obtain ⟨is, S1, g1, w1, r1, e1⟩ := t
      obtain ⟨i1, n, i2⟩ := ht
      have i1 : is = 1 := i1
      subst i1
      have i2 : LW n S1 g1 w1 r1 e1 := i2
      have k1 : ¬ (9 : Int32) ≤ nI k := nI_ge (b := 9) hk (by omega)
      have z1 : 1 + nI k = nI (1 + k) := nI_add 1 k
      obtain ⟨v, hv⟩ := p_cell (L := L) (xs := xs) (j := 1 + k) hL (by omega)
      have hz : ∃ z : Int32, (if 3 ≤ nI k then (if nI k = 3 then some (19 : Int32) else some 5) else some 0) = some z := by
        by_cases e1 : (3 : Int32) ≤ nI k
        · rw [if_pos e1]
          by_cases e2 : nI k = 3
          · exact ⟨_, if_pos e2⟩
          · exact ⟨_, if_neg e2⟩
        · exact ⟨_, if_neg e1⟩
      obtain ⟨z, hz⟩ := hz
      obtain ⟨S2, g2, w2, r2, e2, n2, a1, a2⟩ := acts (z := (((v &&& 2147483647) / 640) * 640) + z) i2
      refine Or.inr ⟨(1, S2, g2, w2, r2, e2), ?_, rfl, n2, a2⟩
      simp only [f_L_law_L47, z1, nI_1]
      exact it_e k1 (it_e h10 (chk_i hd0 (bd_i hv (bd_i hz (chk_i hd0 (bd_i a1 rfl)))))))
    0 N (1, S0, g, w, r, e) (by omega) (by omega) ⟨rfl, 0, h0⟩
  obtain ⟨is, S1, g1, w1, r1, e1⟩ := t1
  obtain ⟨i1, n, i2⟩ := s2
  have i1 : is = 1 := i1
  subst i1
  have i2 : LW n S1 g1 w1 r1 e1 := i2
  have s1 : f_L_law_L47 N L xs 60 N 1 0 S0 g w r e = some (1, S1, g1, w1, r1, e1) := s1
  obtain ⟨S2, a1, a2⟩ := isso (x := 1) i2
  obtain ⟨v0, hv0⟩ := p_cell (L := L) (xs := xs) (j := 0) hL (by omega)
  have hv0 : f_L_cell L xs 0 = some v0 := hv0
  obtain ⟨q, hq, hlow⟩ := p_low (N := N) (c := 36) v0 (by omega) (by omega)
  have hlow : f_L_low N v0 36 = some (nI q) := hlow
  have z8 : 8 + nI q = nI (8 + q) := nI_add 8 q
  generalize hT : 8 + q = T at z8
  obtain ⟨t2, u1, u2⟩ := for_inv (fun m k (t : Int32 × XS × (Nat → Int32) × (Nat → Int32) × (Nat → Int32) × (Nat → Int32) × Nat) => f_L_law_L163 N L xs (nI T) m t.1 k t.2.1 t.2.2.1 t.2.2.2.1 t.2.2.2.2.1 t.2.2.2.2.2.1 t.2.2.2.2.2.2) T
    (fun k t => t.1 = 1 ∧ t.2.2.2.2.2.2 ≤ 163 + 103 * k ∧ ∃ n, LW n t.2.1 t.2.2.1 t.2.2.2.1 t.2.2.2.2.1 t.2.2.2.2.2.1) (fun t => t.1 = 1 ∧ t.2.2.2.2.2.2 ≤ 5000 ∧ ∃ n, LW n t.2.1 t.2.2.1 t.2.2.2.1 t.2.2.2.2.1 t.2.2.2.2.2.1)
    (fun m t ht => ⟨t, by simp only [f_L_law_L163]; rw [if_pos (Int32.le_refl _)], ht.1, by have := ht.2.1; omega, ht.2.2⟩)
    (fun m k t hk ht => by
      obtain ⟨is, S1, g1, w1, r1, e1, nc⟩ := t
      obtain ⟨i1, i3, n, i2⟩ := ht
      have i1 : is = 1 := i1
      subst i1
      have i2 : LW n S1 g1 w1 r1 e1 := i2
      have i3 : nc ≤ 163 + 103 * k := i3
      have k1 : ¬ nI T ≤ nI k := nI_ge hk (by omega)
      have z1 : 10 + nI k = nI (10 + k) := nI_add 10 k
      obtain ⟨v, hv⟩ := p_cell (L := L) (xs := xs) (j := 10 + k) hL (by omega)
      have hz : ∃ z : Int32, (if (nI k - nI k / 4 * 4) = 3 then some (1 : Int32) else some 0) = some z := by
        by_cases e2 : (nI k - nI k / 4 * 4) = 3
        · exact ⟨_, if_pos e2⟩
        · exact ⟨_, if_neg e2⟩
      obtain ⟨z, hz⟩ := hz
      obtain ⟨S2, g2, w2, r2, e2, n2, a1, a2⟩ := acts (z := v ^^^ (7919 * nI k)) i2
      obtain ⟨S3, b1, b2⟩ := isso (x := z) a2
      have hd1 : decide (nc + 0 ≤ 10000) = true := decide_eq_true (by omega)
      have hd2 : decide (nc + 103 ≤ 10000) = true := decide_eq_true (by omega)
      refine Or.inr ⟨(1, S3, g2, w2, r2, e2, nc + 103), ?_, rfl, by show nc + 103 ≤ _; omega, n2, b2⟩
      simp only [f_L_law_L163, z1, nI_1]
      exact it_e k1 (it_e h10 (chk_i hd1 (bd_i hv (chk_i hd1 (bd_i a1 (bd_i (q := (S3, nc + 103, 1)) (it_e h10 (bd_i hz (chk_i hd2 (bd_i b1 (it_e h10 rfl))))) rfl)))))))
    0 N (1, S2, g1, w1, r1, e1, 60 + 103) (by omega) (by omega) ⟨rfl, by show 60 + 103 ≤ _; omega, n, a2⟩
  obtain ⟨is, S3, g3, w3, r3, e3, nc⟩ := t2
  obtain ⟨j1, j3, n3, j2⟩ := u2
  have j1 : is = 1 := j1
  subst j1
  have j2 : LW n3 S3 g3 w3 r3 e3 := j2
  have j3 : nc ≤ 5000 := j3
  have u1 : f_L_law_L163 N L xs (nI T) N 1 0 S2 g1 w1 r1 e1 (60 + 103) = some (1, S3, g3, w3, r3, e3, nc) := u1
  obtain ⟨S4, d1, d2, d3⟩ := q_co9 (N := N) (by omega) j2.2.2.1
  obtain ⟨S5, f1, f2, f3⟩ := q_plm (N := N) d2
  have hd1 : decide (60 + 103 ≤ 10000) = true := decide_eq_true (by omega)
  have hd2 : decide (60 + 103 + 0 ≤ 10000) = true := decide_eq_true (by omega)
  have hd3 : decide (nc + 0 ≤ 10000) = true := decide_eq_true (by omega)
  have hd4 : decide (nc ≤ 10000) = true := decide_eq_true (by omega)
  unfold f_L_law
  refine chk_i hd0 (bd_i c1 (bd_i (q := 1) (it_i rfl rfl) (bd_i s1 (bd_i (q := (S2, 60 + 103, 1)) (it_e h10 (chk_i hd1 (bd_i a1 (it_e h10 rfl)))) (chk_i hd2 (bd_i hv0 (chk_i hd2 (bd_i hlow ?_))))))))
  rw [z8]
  exact bd_i u1 (it_e h10 (chk_i hd3 (bd_i d1 (it_i rfl (chk_i hd3 (bd_i f1 (it_i rfl (chk_i hd4 rfl))))))))
