theorem isZ_1 : isZ 1 = true := by decide
theorem ok_acts {N n : Nat} {z : Int32} {S : XS} {g w r e : Nat → Int32} (hN : 100 ≤ N) (h : LW n S g w r e) (hrd : ∀ y, y < 10000000 → OkA (f_L_reads N (nI y) S g w r e)) : OkA (f_L_acts N z S g w r e) := by
  obtain ⟨hn, hg, hS, hT, hq⟩ := id h
  obtain ⟨y, hy, e1⟩ := p_low (N := N) (c := 10000000) (z >>> (5 &&& 31)) (by omega) (by omega)
  obtain ⟨wa, hwa, e2⟩ := p_low (N := N) (c := 20) z (by omega) (by omega)
  have e1 : f_L_low N (z >>> (5 &&& 31)) 10000000 = some (nI y) := e1
  have e2 : f_L_low N z 20 = some (nI wa) := e2
  have m2 : nI y - nI y / 2 * 2 = nI (y % 2) := pk_rem (d := 2) (by omega) (by omega) (by omega)
  have m3 : nI y - nI y / 3 * 3 = nI (y % 3) := pk_rem (d := 3) (by omega) (by omega) (by omega)
  have m5 : nI y - nI y / 5 * 5 = nI (y % 5) := pk_rem (d := 5) (by omega) (by omega) (by omega)
  have d2 : nI y / 2 = nI (y / 2) := pk_div (d := 2) (by omega) (by omega) (by omega)
  have d12 : nI y / 12 = nI (y / 12) := pk_div (d := 12) (by omega) (by omega) (by omega)
  rw [d2] at m2
  have m6 : nI (y / 2) - nI (y / 2) / 6 * 6 = nI (y / 2 % 6) := pk_rem (d := 6) (by omega) (by omega) (by omega)
  have m126 : nI (y / 12) - nI (y / 12) / 6 * 6 = nI (y / 12 % 6) := pk_rem (d := 6) (by omega) (by omega) (by omega)
  have m122 : nI (y / 12) - nI (y / 12) / 2 * 2 = nI (y / 12 % 2) := pk_rem (d := 2) (by omega) (by omega) (by omega)
  have hcl : (nI n).toNatClampNeg = n := nI_clamp (by omega)
  have hgn := gi_ok (show n < 12 by omega) (by omega)
  have l8 : (8 : Int32) ≤ nI n ↔ 8 ≤ n := nI_leI (a := 8) (by omega) (by omega)
  unfold f_L_acts
  refine ok_b e1 (ok_b e2 ?_)
  simp only [c00, hg, hcl, upd_s, m2, d2, m6]
  refine ok_sm2 (n ≠ 0) (S, g, w, r, e) ?_ (fun h0 => ?_)
  · have radd : n < 8 → ∃ S2, x_add N (nI (y % 2)) (nI (y / 2 % 6)) S = some (nI n, S2) ∧ LW (n + 1) S2 (upd g 0 (nI n + 1)) (upd w n (nI (y % 2))) (upd r n (nI (y / 2 % 6))) (upd e n 0) := fun h8 => d_add hN h h8 (by omega) (by omega)
    by_cases h4 : wa < 4
    · have h4' : nI wa < 4 := nI_lt (b := 4) h4 (by omega)
      by_cases h8 : 8 ≤ n
      · exact Or.inr ⟨it_i h4' (chk_i g01 (it_i (l8.mpr h8) rfl)), by omega⟩
      · obtain ⟨S2, a1, a2⟩ := radd (by omega)
        exact Or.inl ⟨_, it_i h4' (chk_i g01 (it_e (fun h => h8 (l8.mp h)) (chk_i g01 (chk_i hgn (chk_i hgn (chk_i hgn (chk_i g01 (chk_i g01 (chk_i hgn (chk_i hgn (bd_i a1 (it_i rfl rfl)))))))))))), ok_r a2⟩
    · have h4' : ¬ nI wa < 4 := nI_nlt (a := wa) (b := 4) (by omega) (by omega)
      by_cases h0 : n = 0
      · have h0' : nI n = 0 := by rw [h0]; rfl
        obtain ⟨S2, a1, a2⟩ := radd (by omega)
        exact Or.inl ⟨_, it_e h4' (chk_i g01 (it_i h0' (chk_i g01 (it_e (fun h => by have := l8.mp h; omega) (chk_i g01 (chk_i hgn (chk_i hgn (chk_i hgn (chk_i g01 (chk_i g01 (chk_i hgn (chk_i hgn (bd_i a1 (it_i rfl rfl)))))))))))))), ok_r a2⟩
      · exact Or.inr ⟨it_e h4' (chk_i g01 (it_e (nI_ne0 (by omega) (by omega)) rfl)), h0⟩
  · have h0' : ¬ nI n = 0 := nI_ne0 (by omega) (by omega)
    have hk : y % n < n := Nat.mod_lt _ (by omega)
    have hi : y / 12 % n < n := Nat.mod_lt _ (by omega)
    have mk : nI y - nI y / nI n * nI n = nI (y % n) := pk_rem (by omega) (by omega) (by omega)
    have mi : nI (y / 12) - nI (y / 12) / nI n * nI n = nI (y / 12 % n) := pk_rem (by omega) (by omega) (by omega)
    generalize hkk : y % n = k at hk mk
    generalize hii : y / 12 % n = i at hi mi
    have hck : (nI k).toNatClampNeg = k := nI_clamp (by omega)
    have hgk := gi_ok (show k < 12 by omega) (by omega)
    simp only [c00, hg, mk, d12, mi, m3, m5, m126, m122, hck, upd_s, bt_get (show i < 32 by omega), bt_get (show k < 32 by omega)]
    refine ok_c g01 (ok_c (decide_eq_true h0') (ok_c g01 (ok_c (decide_eq_true h0') ?_)))
    have le13 : (13 : Int32) ≤ nI wa ↔ 13 ≤ wa := nI_leI (a := 13) (by omega) (by omega)
    have le15 : (15 : Int32) ≤ nI wa ↔ 15 ≤ wa := nI_leI (a := 15) (by omega) (by omega)
    have le18 : (18 : Int32) ≤ nI wa ↔ 18 ≤ wa := nI_leI (a := 18) (by omega) (by omega)
    have eq18 : nI wa = 18 ↔ wa = 18 := nI_eq (b := 18) (by omega) (by omega)
    by_cases c13 : 13 ≤ wa
    · refine ok_i (le13.mpr c13) ?_
      by_cases c15 : 15 ≤ wa
      · refine ok_i (le15.mpr c15) ?_
        by_cases c18 : 18 ≤ wa
        · refine ok_i (le18.mpr c18) (ok_sm ?_)
          by_cases w18 : wa = 18
          · by_cases y3 : y % 3 = 0
            · refine Or.inr ⟨(), it_i (eq18.mpr w18) (it_i (show nI (y % 3) ≤ 0 by rw [y3]; decide) rfl), ?_⟩
              refine ok_i (eq18.mpr w18) (ok_c g01 (ok_c g01 ?_))
              have hpred : nI n - 1 = nI (n - 1) := pk_sub (b := 1) (by omega)
              rw [hpred]
              obtain ⟨t, t1, t2⟩ := p_l336 (N := N) (k := k) (g := upd g 0 (nI (n - 1))) (w := w) (r := r) (e := e) (by omega) (show n ≤ 12 by omega) hk upd_s
              obtain ⟨e3, t3, t4⟩ := p_l397 (N := N) (k := k) (g := upd g 0 (nI (n - 1))) (e := t.2.2) (by omega) (show n ≤ 12 by omega) hk upd_s
              obtain ⟨S2, a1, a2⟩ := d_drop hN h hk t2 t4
              exact ok_b t1 (ok_b t3 (ok_b a1 (ok_c g01 (ok_i rfl (ok_r a2)))))
            · exact Or.inl ⟨_, it_i (eq18.mpr w18) (it_e (show ¬ nI (y % 3) ≤ 0 from nI_nle (by omega) (by omega)) rfl), ok_r h⟩
          · refine Or.inr ⟨(), it_e (fun h => w18 (eq18.mp h)) rfl, ?_⟩
            obtain ⟨S2, g2, w2, r2, e3, n2, b1, b2⟩ := hrd y hy
            exact ok_e (fun h => w18 (eq18.mp h)) (ok_b b1 (ok_c isZ_1 (ok_r b2)))
        · refine ok_e (fun h => c18 (le18.mp h)) (ok_c hgk (ok_c hgk (ok_c hgk ?_)))
          obtain ⟨S2, a1, a2⟩ := d_rank (i := y / 12 % 6) hN h hk (by omega)
          exact ok_b a1 (ok_i rfl (ok_r a2))
      · refine ok_e (fun h => c15 (le15.mp h)) (ok_c hgk (ok_c hgk (ok_c hgk ?_)))
        obtain ⟨S2, a1, a2⟩ := d_own (i := y / 12 % 2) hN h hk (by omega)
        exact ok_b a1 (ok_i rfl (ok_r a2))
    · refine ok_e (fun h => c13 (le13.mp h)) (ok_c hgk (ok_sm2 True S ?_ (fun _ => ?_)))
      · by_cases hb : bt (e k) i = true
        · have h1 : (if bt (e k) i = true then (1 : Int32) else 0) = 1 := if_pos hb
          by_cases y5 : y % 5 = 0
          · exact Or.inr ⟨it_i h1 (it_i (show nI (y % 5) ≤ 0 by rw [y5]; decide) rfl), trivial⟩
          · obtain ⟨S2, a1, a2⟩ := d_way0 (N := N) h hk hi hb
            exact Or.inl ⟨_, it_i h1 (it_e (show ¬ nI (y % 5) ≤ 0 from nI_nle (by omega) (by omega)) (bd_i a1 (it_i rfl rfl))), ok_r a2⟩
        · have h1 : ¬ (if bt (e k) i = true then (1 : Int32) else 0) = 1 := by rw [if_neg hb]; decide
          exact Or.inr ⟨it_e h1 rfl, trivial⟩
      · obtain ⟨S2, c, a1, a2, a3⟩ := d_way1 hN h hk hi
        exact ok_c hgk (ok_c hgk (ok_b a1 (ok_c hgk (ok_b a2 (ok_i rfl (ok_r a3))))))
