/-! only, littleChange -/
theorem c_rng {N b : Nat} (x : Int32) (hb : b < 2 ^ 30) : (∃ j, j ≤ b ∧ x = nI j ∧ ¬ x < 0 ∧ x ≤ nI b ∧ f_X4_in N x 0 (nI b) = some 1) ∨ (f_X4_in N x 0 (nI b) = some 0 ∧ (x < 0 ∨ (¬ x < 0 ∧ ¬ x ≤ nI b))) := by
  rcases in_dec (N := N) (a := 0) (b := b) x hb (Nat.zero_le _) with ⟨j, -, hj, rfl, d1⟩ | ⟨d1, d2⟩
  · exact Or.inl ⟨j, hj, rfl, nI_pos (by omega), (nI_leI (by omega) (by omega)).mpr hj, d1⟩
  · refine Or.inr ⟨d1, ?_⟩
    by_cases e1 : x < 0
    · exact Or.inl e1
    · refine Or.inr ⟨e1, fun e2 => ?_⟩
      have h0 : (0 : Int32).toInt = 0 := by decide
      rw [Int32.lt_iff_toInt_lt, h0] at e1
      rw [Int32.le_iff_toInt_le, nI_toInt (by omega)] at e2
      refine d2 x.toInt.toNat (Nat.zero_le _) (by omega) ?_
      apply Int32.toInt_inj.mp
      rw [nI_toInt (by omega)]
      omega
theorem FE_back {n k : Nat} {o r w s : Nat → Int32} {x : Int32} (hn : n ≤ 12) (hk : k < n) (hF : FE n o r w s) : FE n o r w (upd (upd s (25 + k) x) (25 + k) (w k)) := by
  refine ⟨by rw [upd_n (by omega), upd_n (by omega)]; exact hF.1, fun v hv => ?_⟩
  obtain ⟨a, b, c⟩ := hF.2 v hv
  refine ⟨by rw [upd_n (by omega), upd_n (by omega)]; exact a, by rw [upd_n (by omega), upd_n (by omega)]; exact b, ?_⟩
  by_cases e : v = k
  · rw [e, upd_s]
  · rw [upd_n (by omega), upd_n (by omega)]; exact c
theorem FE_rk {n k : Nat} {o r w s : Nat → Int32} {x : Int32} (hn : n ≤ 12) (hk : k < n) (hF : FE n o r w s) : FE n o (upd r k x) w (upd s (13 + k) x) := by
  refine ⟨by rw [upd_n (by omega)]; exact hF.1, fun v hv => ?_⟩
  obtain ⟨a, b, c⟩ := hF.2 v hv
  refine ⟨by rw [upd_n (by omega)]; exact a, ?_, by rw [upd_n (by omega)]; exact c⟩
  by_cases e : v = k
  · rw [e, upd_s, upd_s]
  · rw [upd_n (by omega), upd_n e]; exact b
theorem FE_rkb {n k : Nat} {o r w s : Nat → Int32} {x : Int32} (hn : n ≤ 12) (hk : k < n) (hF : FE n o r w s) : FE n o r w (upd (upd s (13 + k) x) (13 + k) (r k)) := by
  refine ⟨by rw [upd_n (by omega), upd_n (by omega)]; exact hF.1, fun v hv => ?_⟩
  obtain ⟨a, b, c⟩ := hF.2 v hv
  refine ⟨by rw [upd_n (by omega), upd_n (by omega)]; exact a, ?_, by rw [upd_n (by omega), upd_n (by omega)]; exact c⟩
  by_cases e : v = k
  · rw [e, upd_s]
  · rw [upd_n (by omega), upd_n (by omega)]; exact b
theorem VF_wy {n k u : Nat} {o r w : Nat → Int32} (V : VF n o r w) (hu : u < n) : VF n o r (upd w k (bit u)) := ⟨V.1, fun v hv => ⟨(V.2 v hv).1, (V.2 v hv).2.1, by
  by_cases ev : v = k
  · rw [ev, upd_s]; exact bit_sub V.1 hu
  · rw [upd_n ev]; exact (V.2 v hv).2.2⟩⟩
theorem VF_rk {n k q : Nat} {o r w : Nat → Int32} (V : VF n o r w) (hq : q < 6) : VF n o (upd r k (nI q)) w := ⟨V.1, fun v hv => ⟨(V.2 v hv).1, by
  by_cases ev : v = k
  · exact rkN_nI (by rw [ev, upd_s]) hq
  · exact rkN_nI (j := rkN r v) (by rw [upd_n ev]; exact (V.2 v hv).2.1.1) (V.2 v hv).2.1.2, (V.2 v hv).2.2⟩⟩
theorem upd_cg {n k : Nat} {f g : Nat → Int32} {x : Int32} (h : ∀ v, v < n → f v = g v) : ∀ v, v < n → upd f k x v = upd g k x v := fun v hv => by
  unfold upd; split
  · rfl
  · exact h v hv
theorem step_only {N : Nat} (hN : 13000000 ≤ N) (x1 : Int32) (x2 : Int32) {S : XS} {M : MS} (h : Rel S M) : ∃ (r : Int32) (S2 : XS) (M2 : MS), x_only N x1 x2 S = some (r, S2) ∧ m_only N x1 x2 M = some (r, M2) ∧ Rel S2 M2 := by
  obtain ⟨⟨n, hz, V, hF, hw, hc⟩, hRH, hRK, hRT⟩ := h
  have hn := V.1
  rcases c_place (N := N) x1 hn hF.1 with ⟨k, hk, rfl, a1, a2⟩ | ⟨a1, a2⟩
  · rcases c_place (N := N) x2 hn hF.1 with ⟨j, hj, rfl, b1, b2⟩ | ⟨b1, b2⟩
    · obtain ⟨k1, k2, k3, k4⟩ := idx hk hn
      obtain ⟨-, -, z3, -, -, s3⟩ := idm hF hk hn
      have hcont := f_contains (N := N) (x := S.2.2 2 k) (k := j) (by omega)
      have hhas := p_hasWay (N := N) hF hk hn (show j < 32 by omega)
      by_cases e : bt (S.2.2 2 k) j = true
      · rw [if_pos e] at hcont hhas
        obtain ⟨o', r', w', y1, y2⟩ := p_copyFrom (N := N) (n := n) (o := S.2.2 0) (r := S.2.2 1) (w := S.2.2 2) (o2 := S.2.2 18) (r2 := S.2.2 19) (w2 := S.2.2 20) (z := S.2.1 6) (by omega) hn
        have Vt := VF_wy (k := k) V hj
        have cg : ∀ v, v < n → o' v = S.2.2 0 v ∧ r' v = S.2.2 1 v ∧ upd w' k (bit j) v = upd (S.2.2 2) k (bit j) v := fun v hv => ⟨(y2 v hv).1, (y2 v hv).2.1, upd_cg (fun v hv => (y2 v hv).2.2) v hv⟩
        obtain ⟨R', e1, e2⟩ := p_winsOf0 (N := N) (by omega) (VF_cong Vt cg)
        have e1 : f_X1_winsOf0 N o' r' (upd w' k (1 <<< (nI j &&& 31))) (nI n) = some R' := e1
        have e3 := WinS_cong e2 (fun v hv => ⟨(cg v hv).1.symm, (cg v hv).2.1.symm, (cg v hv).2.2.symm⟩)
        obtain ⟨g, q1, q3, q5, hwon⟩ := p_won (meas := M.2 4) (a1 := M.1 3) (a3 := M.1 4) (a5 := M.1 5) hN Vt (FE_set (x := bit j) hn hk hF.1 (fun v hv => ⟨(hF.2 v hv).1, (hF.2 v hv).2.1, fun _ => (hF.2 v hv).2.2⟩)) e3
        have hwon : f_X4_won N (upd (M.2 0) (25 + k) (1 <<< (nI j &&& 31))) (M.2 4) (M.1 3) (M.1 4) (M.1 5) = some (R', g, q1, q3, q5) := hwon
        rw [nI_clamp (by omega)] at s3
        refine mk_step (r := R') (by simp only [x_only, f_X3_only, hz, a1, b1, i10, Option.bind_some, chk_t k2, k3, hcont, y1, e1]; rfl) (by simp only [m_only, f_X4_only, a2, b2, i10, Option.bind_some, hhas, m25, chk_t z3, nI_clamp (show 25 + k < 2 ^ 31 by omega), hwon, s3]; rfl) ?_
        exact ⟨⟨n, hz, V, FE_back hn hk hF, hw, hc⟩, hRH, hRK, hRT⟩
      · rw [if_neg e] at hcont hhas
        refine mk_step (r := -2) (by simp only [x_only, f_X3_only, hz, a1, b1, i10, i00, Option.bind_some, chk_t k2, k3, hcont]; rfl) (by simp only [m_only, f_X4_only, a2, b2, i10, i00, Option.bind_some, hhas]; rfl) ?_
        exact ⟨⟨n, hz, V, hF, hw, hc⟩, hRH, hRK, hRT⟩
    · refine mk_step (r := -1) (by simp only [x_only, f_X3_only, hz, a1, b1, i10, i00, Option.bind_some]; rfl) (by simp only [m_only, f_X4_only, a2, b2, i10, i00, Option.bind_some]; rfl) ?_
      exact ⟨⟨n, hz, V, hF, hw, hc⟩, hRH, hRK, hRT⟩
  · refine mk_step (r := -1) (by simp only [x_only, f_X3_only, hz, a1, i00, Option.bind_some]; rfl) (by simp only [m_only, f_X4_only, a2, i00, Option.bind_some]; rfl) ?_
    exact ⟨⟨n, hz, V, hF, hw, hc⟩, hRH, hRK, hRT⟩
theorem p_turn {N n p c q : Nat} {o r w s o' tr w' meas : Nat → Int32} {R a1 a3 a5 : Int32} (hN : 13000000 ≤ N) (V : VF n o r w) (hF : FE n o r w s) (hp : p < n) (hc : c < n) (hq : q < 6) (ho : ∀ v, v < n → o' v = o v ∧ tr v = r v ∧ w' v = w v) :
    ∃ b : Bool, (∃ tr', f_X3_turnsWinner N (nI p) (nI c) (nI q) r (nI n) o' tr w' (nI n) R = some (if b = true then 1 else 0, tr') ∧ ∀ v, v < n → tr' v = r v) ∧
      ∃ s' g b1 b3 b5, f_X4_turns N (nI p) (if bt R p = true then 0 else 1) (nI c) (nI q) s meas a1 a3 a5 = some (if b = true then 1 else 0, s', g, b1, b3, b5) ∧ FE n o r w s' := by
  have hn := V.1
  obtain ⟨k1, k2, k3, k4⟩ := idx hc hn
  obtain ⟨-, z2, -, -, s2, -⟩ := idm hF hc hn
  rw [nI_clamp (by omega)] at s2
  have Vt := VF_rk (k := c) V hq
  have cg : ∀ v, v < n → o' v = o v ∧ upd tr c (nI q) v = upd r c (nI q) v ∧ w' v = w v := fun v hv => ⟨(ho v hv).1, upd_cg (fun v hv => (ho v hv).2.1) v hv, (ho v hv).2.2⟩
  obtain ⟨R', e1, e2⟩ := p_winsOf0 (N := N) (by omega) (VF_cong Vt cg)
  have e3 := WinS_cong e2 (fun v hv => ⟨(cg v hv).1.symm, (cg v hv).2.1.symm, (cg v hv).2.2.symm⟩)
  obtain ⟨g, q1, q3, q5, hwon⟩ := p_won (meas := meas) (a1 := a1) (a3 := a3) (a5 := a5) hN Vt (FE_rk hn hc hF) e3
  have f2 := p_wins0 (N := N) (z := nI n) (R := R)
  have hir : f_X3_isRank N (nI q) = some 1 := by
    rcases c_rank (N := N) (nI q) with ⟨j, -, -, h, -⟩ | ⟨-, h⟩
    · exact h
    · rcases in_dec (N := N) (a := 0) (b := 5) (nI q) (by omega) (by omega) with ⟨_, _, _, _, h'⟩ | ⟨_, h'⟩
      · have h' : f_X4_in N (nI q) 0 5 = some 1 := h'
        rw [h] at h'; exact absurd h' (by simp)
      · exact absurd rfl (h' q (by omega) (by omega))
  refine ⟨!(bt R' p == bt R p), ⟨upd (upd tr c (nI q)) c (r c), ?_, fun v hv => ?_⟩, upd (upd s (13 + c) (nI q)) (13 + c) (r c), g, q1, q3, q5, ?_, FE_rkb hn hc hF⟩
  · simp only [f_X3_turnsWinner, hir, i10, Option.bind_some, chk_t k2, k3, e1, f_contains (show p < 32 by omega), f2]
    cases bt R' p <;> cases bt R p <;> rfl
  · by_cases e : v = c
    · rw [e, upd_s]
    · rw [upd_n e, upd_n e]; exact (ho v hv).2.1
  · simp only [f_X4_turns, m13, chk_t z2, nI_clamp (show 13 + c < 2 ^ 31 by omega), hwon, Option.bind_some, p_winner (show p < 32 by omega), s2]
    cases bt R' p <;> cases bt R p <;> rfl
def LJ (n : Nat) (o r w o' w' : Nat → Int32) (wk R : Int32) (A : Option ((Int32 × (Nat → Int32) × (Nat → Int32) × (Nat → Int32) × Int32 × Int32 × Int32) ⊕ (Nat → Int32))) (B : Option ((Int32 × (Nat → Int32) × (Nat → Int32) × Int32 × Int32 × Int32) ⊕ ((Nat → Int32) × (Nat → Int32) × Int32 × Int32 × Int32))) : Prop :=
  (∃ v tr' s' g b1 b3 b5, A = some (.inl (v, o', tr', w', nI n, wk, R)) ∧ B = some (.inl (v, s', g, b1, b3, b5)) ∧ FE n o r w s') ∨
  (∃ tr' s' g b1 b3 b5, A = some (.inr tr') ∧ B = some (.inr (s', g, b1, b3, b5)) ∧ (∀ v, v < n → tr' v = r v) ∧ FE n o r w s')
theorem nI_sub {a d : Nat} (h : d ≤ a) : nI a - nI d = nI (a - d) := by
  have : nI a = nI (a - d) + nI d := by rw [nI_add]; congr 1; omega
  rw [this, Int32.add_sub_cancel]
theorem p_lc {N n p : Nat} {o r w o' w' : Nat → Int32} {wk R x2 : Int32} (hN : 13000000 ≤ N) (V : VF n o r w) (hp : p < n) (ho : ∀ v, v < n → o' v = o v ∧ w' v = w v) (d : Nat) (hd : d < 6) (hd0 : 0 < d) :
    ∀ j k m m' tr s meas a1 a3 a5, k + j = n → j < m → j < m' → (∀ v, v < n → tr v = r v) → FE n o r w s →
      LJ n o r w o' w' wk R (f_X3_littleChange_L48 N (nI p) x2 (nI d) r (nI n) o' w' (nI n) wk R m (nI k) tr) (f_X4_littleChange_L41 N (nI p) x2 (if bt R p = true then 0 else 1) (nI d) m' (nI k) s meas a1 a3 a5) := by
  have hn := V.1
  intro j
  induction j with
  | zero =>
    intro k m m' tr s meas a1 a3 a5 hk hm hm' htr hF
    obtain ⟨m, rfl⟩ : ∃ z, m = z + 1 := ⟨m - 1, by omega⟩
    obtain ⟨m', rfl⟩ : ∃ z, m' = z + 1 := ⟨m' - 1, by omega⟩
    obtain rfl : k = n := by omega
    refine Or.inr ⟨tr, s, meas, a1, a3, a5, ?_, ?_, htr, hF⟩
    · rw [f_X3_littleChange_L48, if_pos (Int32.le_refl _)]
    · rw [f_X4_littleChange_L41]
      simp only [chk_t g037, c0, hF.1]
      rw [if_pos (Int32.le_refl _)]
  | succ j ih =>
    intro k m m' tr s meas a1 a3 a5 hk hm hm' htr hF
    obtain ⟨m, rfl⟩ : ∃ z, m = z + 1 := ⟨m - 1, by omega⟩
    obtain ⟨m', rfl⟩ : ∃ z, m' = z + 1 := ⟨m' - 1, by omega⟩
    have hkn : k < n := by omega
    obtain ⟨k1, k2, k3, k4⟩ := idx hkn hn
    obtain ⟨-, z2, -, -, s2, -⟩ := idm hF hkn hn
    obtain ⟨ρ, hρ, hr⟩ : ∃ ρ, ρ < 6 ∧ r k = nI ρ := ⟨rkN r k, (V.2 k hkn).2.1.2, (V.2 k hkn).2.1.1⟩
    have nr : ∀ x : Int32, (∀ i, i < 6 → x ≠ nI i) → f_X3_isRank N x = some 0 := fun x hx => by
      rcases c_rank (N := N) x with ⟨i, hi, e, -⟩ | ⟨h, -⟩
      · exact absurd e (hx i hi)
      · exact h
    have st2 : ∀ tr s meas a1 a3 a5, (∀ v, v < n → tr v = r v) → FE n o r w s →
        LJ n o r w o' w' wk R (Option.bind (f_X3_turnsWinner N (nI p) (nI k) (nI ρ + nI d) r (nI n) o' tr w' (nI n) R) (fun q15 => if q15.1 = 0 then (f_X3_littleChange_L48 N (nI p) x2 (nI d) r (nI n) o' w' (nI n) wk R m (nI (k + 1)) q15.2) else (if x2 = 0 then (some (.inl (nI k, o', q15.2, w', nI n, wk, R))) else (some (.inl (nI ρ + nI d, o', q15.2, w', nI n, wk, R))))))
          (Option.bind (α := (Int32 × (Nat → Int32) × (Nat → Int32) × Int32 × Int32 × Int32) ⊕ ((Nat → Int32) × (Nat → Int32) × Int32 × Int32 × Int32)) (if 6 ≤ (nI ρ + nI d) then (some (.inr (s, meas, a1, a3, a5))) else (Option.bind (f_X4_turns N (nI p) (if bt R p = true then 0 else 1) (nI k) (nI ρ + nI d) s meas a1 a3 a5) (fun q29 => if q29.1 = 0 then (some (.inr (q29.2.1, q29.2.2.1, q29.2.2.2.1, q29.2.2.2.2.1, q29.2.2.2.2.2))) else (if x2 = 0 then (some (.inl (nI k, q29.2.1, q29.2.2.1, q29.2.2.2.1, q29.2.2.2.2.1, q29.2.2.2.2.2))) else (some (.inl (nI ρ + nI d, q29.2.1, q29.2.2.1, q29.2.2.2.1, q29.2.2.2.2.1, q29.2.2.2.2.2))))))) (fun q25 => sm q25 (fun r9 => some (.inl r9)) (fun t26 => f_X4_littleChange_L41 N (nI p) x2 (if bt R p = true then 0 else 1) (nI d) m' (nI (k + 1)) t26.1 t26.2.1 t26.2.2.1 t26.2.2.2.1 t26.2.2.2.2))) := by
      intro tr s meas a1 a3 a5 htr hF
      rw [nI_add]
      by_cases e6 : 6 ≤ ρ + d
      · have h6 : (6 : Int32) ≤ nI (ρ + d) := (nI_leI (a := 6) (by omega) (by omega)).mpr e6
        have hx : f_X3_turnsWinner N (nI p) (nI k) (nI (ρ + d)) r (nI n) o' tr w' (nI n) R = some (0, tr) := by
          simp only [f_X3_turnsWinner, nr (nI (ρ + d)) (fun i hi e => by
            have := (nI_eq (by omega) (by omega)).mp e
            omega), Option.bind_some, if_true]
        simp only [hx, if_pos h6, Option.bind_some, if_true, sm]
        exact ih (k + 1) m m' tr s meas a1 a3 a5 (by omega) (by omega) (by omega) htr hF
      · have h6 : ¬ (6 : Int32) ≤ nI (ρ + d) := nI_ge (b := 6) (by omega) (by omega)
        obtain ⟨b, ⟨tr', x1, x3⟩, s', g, b1, b3, b5, x4, x5⟩ := p_turn (q := ρ + d) (meas := meas) (a1 := a1) (a3 := a3) (a5 := a5) (R := R) hN V hF hp hkn (by omega) (fun v hv => ⟨(ho v hv).1, htr v hv, (ho v hv).2⟩)
        cases b with
        | true =>
          by_cases ex : x2 = 0
          · exact Or.inl ⟨nI k, tr', s', g, b1, b3, b5, by simp only [x1, Option.bind_some, if_true, if_neg (show ¬ (1 : Int32) = 0 by decide), if_pos ex], by simp only [x4, if_neg h6, Option.bind_some, if_true, if_neg (show ¬ (1 : Int32) = 0 by decide), if_pos ex, sm], x5⟩
          · exact Or.inl ⟨nI (ρ + d), tr', s', g, b1, b3, b5, by simp only [x1, Option.bind_some, if_true, if_neg (show ¬ (1 : Int32) = 0 by decide), if_neg ex], by simp only [x4, if_neg h6, Option.bind_some, if_true, if_neg (show ¬ (1 : Int32) = 0 by decide), if_neg ex, sm], x5⟩
        | false =>
          simp only [x1, x4, if_neg h6, Option.bind_some, if_neg (show ¬ false = true by decide), if_true, sm]
          exact ih (k + 1) m m' tr' s' g b1 b3 b5 (by omega) (by omega) (by omega) x3 x5
    rw [f_X3_littleChange_L48, f_X4_littleChange_L41]
    simp only [chk_t g037, c0, hF.1, if_neg k1, chk_t k2, k3, m13, chk_t z2, s2, hr, k4]
    by_cases ed : d ≤ ρ
    · have hlt : ¬ nI ρ < nI d := nI_nlt ed (by omega)
      rw [nI_sub ed]
      obtain ⟨b, ⟨tr', x1, x3⟩, s', g, b1, b3, b5, x4, x5⟩ := p_turn (q := ρ - d) (meas := meas) (a1 := a1) (a3 := a3) (a5 := a5) (R := R) hN V hF hp hkn (by omega) (fun v hv => ⟨(ho v hv).1, htr v hv, (ho v hv).2⟩)
      cases b with
      | true =>
        by_cases ex : x2 = 0
        · exact Or.inl ⟨nI k, tr', s', g, b1, b3, b5, by simp only [x1, Option.bind_some, if_true, if_neg (show ¬ (1 : Int32) = 0 by decide), if_pos ex], by simp only [x4, if_neg hlt, Option.bind_some, if_true, if_neg (show ¬ (1 : Int32) = 0 by decide), if_pos ex, sm], x5⟩
        · exact Or.inl ⟨nI (ρ - d), tr', s', g, b1, b3, b5, by simp only [x1, Option.bind_some, if_true, if_neg (show ¬ (1 : Int32) = 0 by decide), if_neg ex], by simp only [x4, if_neg hlt, Option.bind_some, if_true, if_neg (show ¬ (1 : Int32) = 0 by decide), if_neg ex, sm], x5⟩
      | false =>
        have := st2 tr' s' g b1 b3 b5 x3 x5
        simp only [x1, x4, if_neg hlt, Option.bind_some, if_neg (show ¬ false = true by decide), if_true, sm]
        exact this
    · have hlt : nI ρ < nI d := nI_lt (by omega) (by omega)
      have hx : f_X3_turnsWinner N (nI p) (nI k) (nI ρ - nI d) r (nI n) o' tr w' (nI n) R = some (0, tr) := by
        simp only [f_X3_turnsWinner, nr (nI ρ - nI d) (fun i hi e => by
          have e' : nI ρ = nI (i + d) := by rw [← nI_add, ← e, Int32.sub_add_cancel]
          have := (nI_eq (by omega) (by omega)).mp e'
          omega), Option.bind_some, if_true]
      have := st2 tr s meas a1 a3 a5 htr hF
      simp only [hx, if_pos hlt, Option.bind_some, if_true, sm]
      exact this
theorem p_lc6 {N n p : Nat} {o r w o' w' : Nat → Int32} {wk R x2 : Int32} (hN : 13000000 ≤ N) (V : VF n o r w) (hp : p < n) (ho : ∀ v, v < n → o' v = o v ∧ w' v = w v) :
    ∀ j k m m' tr s meas a1 a3 a5, k + j = 6 → 0 < k → j < m → j < m' → (∀ v, v < n → tr v = r v) → FE n o r w s →
      LJ n o r w o' w' wk R (f_X3_littleChange_L39 N (nI p) x2 r (nI n) o' w' (nI n) wk R m (nI k) tr) (f_X4_littleChange_L31 N (nI p) x2 (if bt R p = true then 0 else 1) m' (nI k) s meas a1 a3 a5) := by
  have hn := V.1
  intro j
  induction j with
  | zero =>
    intro k m m' tr s meas a1 a3 a5 hk hk0 hm hm' htr hF
    obtain ⟨m, rfl⟩ : ∃ z, m = z + 1 := ⟨m - 1, by omega⟩
    obtain ⟨m', rfl⟩ : ∃ z, m' = z + 1 := ⟨m' - 1, by omega⟩
    obtain rfl : k = 6 := by omega
    refine Or.inr ⟨tr, s, meas, a1, a3, a5, ?_, ?_, htr, hF⟩
    · rw [f_X3_littleChange_L39, if_pos (by decide)]
    · rw [f_X4_littleChange_L31, if_pos (by decide)]
  | succ j ih =>
    intro k m m' tr s meas a1 a3 a5 hk hk0 hm hm' htr hF
    obtain ⟨m, rfl⟩ : ∃ z, m = z + 1 := ⟨m - 1, by omega⟩
    obtain ⟨m', rfl⟩ : ∃ z, m' = z + 1 := ⟨m' - 1, by omega⟩
    have k1 : ¬ (6 : Int32) ≤ nI k := nI_ge (b := 6) (by omega) (by omega)
    rw [f_X3_littleChange_L39, f_X4_littleChange_L31, if_neg k1, if_neg k1, nI_1]
    rcases p_lc (wk := wk) (R := R) (x2 := x2) hN V hp ho k (by omega) hk0 n 0 N N tr s meas a1 a3 a5 (by omega) (by omega) (by omega) htr hF with ⟨v, tr', s', g, b1, b3, b5, x1, x3, x5⟩ | ⟨tr', s', g, b1, b3, b5, x1, x3, x4, x6⟩
    · have x1 : f_X3_littleChange_L48 N (nI p) x2 (nI k) r (nI n) o' w' (nI n) wk R N 0 tr = _ := x1
      have x3 : f_X4_littleChange_L41 N (nI p) x2 (if bt R p = true then 0 else 1) (nI k) N 0 s meas a1 a3 a5 = _ := x3
      exact Or.inl ⟨v, tr', s', g, b1, b3, b5, by simp only [x1, Option.bind_some, sm], by simp only [x3, Option.bind_some, sm], x5⟩
    · have x1 : f_X3_littleChange_L48 N (nI p) x2 (nI k) r (nI n) o' w' (nI n) wk R N 0 tr = _ := x1
      have x3 : f_X4_littleChange_L41 N (nI p) x2 (if bt R p = true then 0 else 1) (nI k) N 0 s meas a1 a3 a5 = _ := x3
      simp only [x1, x3, Option.bind_some, sm]
      exact ih (k + 1) m m' tr' s' g b1 b3 b5 (by omega) (by omega) (by omega) (by omega) x4 x6
theorem step_littleChange {N : Nat} (hN : 13000000 ≤ N) (x1 : Int32) (x2 : Int32) {S : XS} {M : MS} (h : Rel S M) : ∃ (r : Int32) (S2 : XS) (M2 : MS), x_littleChange N x1 x2 S = some (r, S2) ∧ m_littleChange N x1 x2 M = some (r, M2) ∧ Rel S2 M2 := by
  obtain ⟨⟨n, hz, V, hF, hw, hc⟩, hRH, hRK, hRT⟩ := h
  have hn := V.1
  obtain ⟨R, -, hR⟩ := p_winsOf0 (N := N) (by omega) V
  have hw' : ¬ S.2.1 10 = 0 → S.2.1 11 = R := fun h => win_uniq V (hw h) hR
  rcases c_place (N := N) x1 hn hF.1 with ⟨k, hk, rfl, a1, a2⟩ | ⟨a1, a2⟩
  · rcases c_rng (N := N) (b := 1) x2 (by omega) with ⟨j, hj, -, b1, b2, b3⟩ | ⟨b3, b4⟩
    · have b2 : x2 ≤ 1 := b2
      have b3 : f_X4_in N x2 0 1 = some 1 := b3
      obtain ⟨o', r', w', y1, y2⟩ := p_copyFrom (N := N) (n := n) (o := S.2.2 0) (r := S.2.2 1) (w := S.2.2 2) (o2 := S.2.2 18) (r2 := S.2.2 19) (w2 := S.2.2 20) (z := S.2.1 6) (by omega) hn
      obtain ⟨wk1, g1, g2⟩ := p_findWinners (N := N) (by omega) V hR hw'
      obtain ⟨g0, t1, t3, t5, hwon⟩ := p_won (meas := M.2 4) (a1 := M.1 3) (a3 := M.1 4) (a5 := M.1 5) hN V hF hR
      rcases p_lc6 (wk := wk1) (R := R) (x2 := x2) hN V hk (fun v hv => ⟨(y2 v hv).1, (y2 v hv).2.2⟩) 5 1 N N r' (M.2 0) g0 t1 t3 t5 (by omega) (by omega) (by omega) (by omega) (fun v hv => (y2 v hv).2.1) hF with ⟨v, tr', s', g, b1', b3', b5', x1, x3, x5⟩ | ⟨tr', s', g, b1', b3', b5', x1, x3, -, x5⟩
      · have x1 : f_X3_littleChange_L39 N (nI k) x2 (S.2.2 1) (nI n) o' w' (nI n) wk1 R N 1 r' = _ := x1
        have x3 : f_X4_littleChange_L31 N (nI k) x2 (if bt R k = true then 0 else 1) N 1 (M.2 0) g0 t1 t3 t5 = _ := x3
        refine mk_step (r := v) (by simp only [x_littleChange, f_X3_littleChange, hz, a1, i10, Option.bind_some, if_neg b1, if_pos b2, g2, y1, x1, sm]; rfl) (by simp only [m_littleChange, f_X4_littleChange, a2, b3, i10, Option.bind_some, hwon, p_winner (show k < 32 by omega), x3, sm]; rfl) ?_
        exact ⟨⟨n, hz, V, x5, fun _ => hR, fun h => ⟨(hc h).1, g1⟩⟩, hRH, hRK, hRT⟩
      · have x1 : f_X3_littleChange_L39 N (nI k) x2 (S.2.2 1) (nI n) o' w' (nI n) wk1 R N 1 r' = _ := x1
        have x3 : f_X4_littleChange_L31 N (nI k) x2 (if bt R k = true then 0 else 1) N 1 (M.2 0) g0 t1 t3 t5 = _ := x3
        refine mk_step (r := -4) (by simp only [x_littleChange, f_X3_littleChange, hz, a1, i10, Option.bind_some, if_neg b1, if_pos b2, g2, y1, x1, sm]; rfl) (by simp only [m_littleChange, f_X4_littleChange, a2, b3, i10, Option.bind_some, hwon, p_winner (show k < 32 by omega), x3, sm]; rfl) ?_
        exact ⟨⟨n, hz, V, x5, fun _ => hR, fun h => ⟨(hc h).1, g1⟩⟩, hRH, hRK, hRT⟩
    · have b3 : f_X4_in N x2 0 1 = some 0 := b3
      rcases b4 with b4 | ⟨b4, b5⟩
      · refine mk_step (r := -1) (by simp only [x_littleChange, f_X3_littleChange, hz, a1, i10, Option.bind_some, if_pos b4]; rfl) (by simp only [m_littleChange, f_X4_littleChange, a2, b3, i10, i00, Option.bind_some]; rfl) ?_
        exact ⟨⟨n, hz, V, hF, hw, hc⟩, hRH, hRK, hRT⟩
      · have b5 : ¬ x2 ≤ 1 := b5
        refine mk_step (r := -1) (by simp only [x_littleChange, f_X3_littleChange, hz, a1, i10, Option.bind_some, if_neg b4, if_neg b5]; rfl) (by simp only [m_littleChange, f_X4_littleChange, a2, b3, i10, i00, Option.bind_some]; rfl) ?_
        exact ⟨⟨n, hz, V, hF, hw, hc⟩, hRH, hRK, hRT⟩
  · refine mk_step (r := -1) (by simp only [x_littleChange, f_X3_littleChange, hz, a1, i00, Option.bind_some]; rfl) (by simp only [m_littleChange, f_X4_littleChange, a2, i00, Option.bind_some]; rfl) ?_
    exact ⟨⟨n, hz, V, hF, hw, hc⟩, hRH, hRK, hRT⟩
