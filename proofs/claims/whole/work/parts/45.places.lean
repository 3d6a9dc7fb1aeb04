/-! texts: a place, all places -/
def PSt (P p : Nat) (o r w wn wi : Nat → Int32) (wc : Int32) (ow rk st ta ln : Nat → Int32) : Prop :=
  (∀ v, v < P → (o v = 0 ∨ o v = 1) ∧ (∃ q, q < 6 ∧ r v = nI q) ∧ ow v = o v ∧ rk v = r v) ∧ ∃ K num ix, wc = nI K ∧ WV K P K p num ix wn wi ta ln ∧ ∀ v, v < P → st v = w v ∧ ∀ u, bt (w v) u = true → u < 12 ∧ ∃ i, i < K ∧ num i = u
theorem WV_mono {K P F p q : Nat} {num ix : Nat → Nat} {wn wi ta ln : Nat → Int32} (h : WV K P F p num ix wn wi ta ln) (hpq : p ≤ q) : WV K P F q num ix wn wi ta ln := by
  obtain ⟨w1, w2, w3, w4, w5⟩ := h
  exact ⟨by omega, fun i hi => ⟨(w2 i hi).1, (w2 i hi).2.1, (w2 i hi).2.2.1, by have := (w2 i hi).2.2.2; omega⟩, w3, w4, w5⟩
theorem WV_next {K P F p : Nat} {num ix : Nat → Nat} {wn wi ta ln : Nat → Int32} (h : WV K P F p num ix wn wi ta ln) : WV K (P + 1) K p num ix wn wi ta ln := by
  obtain ⟨w1, w2, w3, w4, w5⟩ := h
  refine ⟨w1, w2, w3, w4, fun v hv => ?_⟩
  obtain ⟨x, x1, x2, -⟩ := w5 v hv
  exact ⟨x, by omega, x2, fun h => by omega, fun ⟨i, i1, i2, _⟩ => by omega⟩
theorem PSt_mono {P p q : Nat} {o r w wn wi ow rk st ta ln : Nat → Int32} {wc : Int32} (h : PSt P p o r w wn wi wc ow rk st ta ln) (hpq : p ≤ q) : PSt P q o r w wn wi wc ow rk st ta ln := by
  obtain ⟨h0, K, num, ix, h1, h2, h3⟩ := h
  exact ⟨h0, K, num, ix, h1, WV_mono h2 hpq, h3⟩
theorem PS_next {P F p q : Nat} {a wc : Int32} {o r ow rk tw wn wi st ta ln : Nat → Int32} (h0 : ∀ v, v < P → (o v = 0 ∨ o v = 1) ∧ (∃ q, q < 6 ∧ r v = nI q) ∧ ow v = o v ∧ rk v = r v) (ha : a = 0 ∨ a = 1) (hq : q < 6) (hW : WS P F p tw wn wi wc st ta ln) :
    PSt (P + 1) p (upd o P a) (upd r P (nI q)) tw wn wi wc (upd ow P a) (upd rk P (nI q)) st ta ln := by
  obtain ⟨K, num, ix, -, h1, h2, h3⟩ := hW
  refine ⟨fun v hv => ?_, K, num, ix, h1, WV_next h2, h3⟩
  by_cases e : v = P
  · rw [e, upd_s, upd_s, upd_s, upd_s]
    exact ⟨ha, ⟨q, hq, rfl⟩, rfl, rfl⟩
  · rw [upd_n e, upd_n e, upd_n e, upd_n e]
    exact h0 v (by omega)
theorem PS_ways {P p q : Nat} {o r w wn wi ow rk st ta ln : Nat → Int32} {wc : Int32} (h : PSt P p o r w wn wi wc ow rk st ta ln) (hpq : p ≤ q) : ∃ K, wc = nI K ∧ WS P K q (upd w P 0) wn wi wc (upd st P 0) ta ln := by
  obtain ⟨h0, K, num, ix, h1, h2, h3⟩ := h
  refine ⟨K, h1, K, num, ix, Nat.le_refl _, h1, WV_mono h2 hpq, fun v hv => ?_⟩
  by_cases e : v = P
  · rw [e, upd_s, upd_s]
    exact ⟨rfl, fun u hu => by rw [b_0] at hu; exact absurd hu (by decide)⟩
  · rw [upd_n e, upd_n e]
    exact h3 v (by omega)
theorem t_rank {N q : Nat} (hq : q < 10) : f_X3_isRank N (nI q) = some (if q < 6 then 1 else 0) := by
  unfold f_X3_isRank
  rw [if_neg (nI_pos (by omega))]
  by_cases e : q < 6
  · rw [if_pos e, if_neg (show ¬ (6 : Int32) ≤ nI q from nI_ge (b := 6) e (by omega))]
  · rw [if_neg e, if_pos (show (6 : Int32) ≤ nI q from (nI_leI (a := 6) (by omega) (by omega)).mpr (by omega))]
theorem t_append {N P : Nat} {a b : Int32} {o r w : Nat → Int32} (hP : P < 12) : f_X0_append N a b o r w (nI P) = some (upd o P a, upd r P b, upd w P 0, nI (P + 1)) := by
  have h12 : ¬ (12 : Int32) ≤ nI P := nI_ge (b := 12) hP (by omega)
  simp only [f_X0_append, if_neg h12, chk_t (gi_ok hP (by omega)), nI_clamp (show P < 2 ^ 31 by omega), nI_1]
def PJ (P L p : Nat) (A : Option (Int32 × (Nat → Int32) × (Nat → Int32) × (Nat → Int32) × Int32 × Int32 × Int32 × Int32 × (Nat → Int32) × (Nat → Int32) × Int32)) (B : Option (Int32 × Int32 × Int32 × Int32 × (Nat → Int32) × (Nat → Int32) × (Nat → Int32) × (Nat → Int32) × (Nat → Int32))) : Prop :=
  (∃ x y o' r' w' z' at' wn' wi' wc' pl' ow' rk' st' ta' ln', A = some (0, o', r', w', z', x, y, at', wn', wi', wc') ∧ B = some (0, x, y, pl', ow', rk', st', ta', ln')) ∨
  (∃ p' o' r' w' fi' fr' wn' wi' wc' rs' ow' rk' st' ta' ln', A = some (1, o', r', w', nI (P + 1), fi', fr', nI p', wn', wi', wc') ∧ B = some (1, nI p', rs', nI (P + 1), ow', rk', st', ta', ln') ∧ p' ≤ L ∧ p < p' ∧ PSt (P + 1) p' o' r' w' wn' wi' wc' ow' rk' st' ta' ln')
theorem nI_eq' {a b : Nat} (ha : a < 2 ^ 31) (hb : b < 2 ^ 31) {α : Type} {x y : α} : (if nI a = nI b then x else y) = if a = b then x else y := by
  by_cases e : a = b
  · rw [if_pos e, if_pos (by rw [e])]
  · rw [if_neg e, if_neg (nI_ne ha hb e)]
theorem p_place {N L P p : Nat} {c : Nat → Nat} {cs ts o r w wn wi ow rk st ta ln : Nat → Int32} {wc fi fr rs : Int32} (hN : 200 ≤ N) (T : TXT c cs ts L) (hP : P < 12) (hp : p ≤ L) (h : PSt P p o r w wn wi wc ow rk st ta ln) :
    PJ P L p (f_X2_lookAtPlace N cs (nI L) o r w (nI P) fi fr (nI p) wn wi wc) (f_X4_readsPlace N ts (nI L) (nI p) rs (nI P) ow rk st ta ln) := by
  have hL := T.1
  have h0 := h.1
  have e101 : f_X4_isAt N 101 101 ts (nI L) (nI p) = some (if c p = 101 then 1 else 0) := t_isAt1 (a := 101) T (by omega) (by omega) (by omega)
  have e111 : f_X4_isAt N 111 111 ts (nI L) (nI p) = some (if c p = 111 then 1 else 0) := t_isAt1 (a := 111) T (by omega) (by omega) (by omega)
  have e58 : f_X4_isAt N 58 58 ts (nI L) (nI (p + 1 + 1)) = some (if c (p + 1 + 1) = 58 then 1 else 0) := t_isAt1 (a := 58) T (by omega) (by omega) (by omega)
  have hch := t_char (N := N) (p := p) T (by omega)
  have c101 : (if nI (c p) = 101 then (some (0 : Int32)) else some 1) = if c p = 101 then some 0 else some 1 := nI_eq' (b := 101) (by have := T.le (p := p); omega) (by omega)
  by_cases eo : c p = 101 ∨ c p = 111
  · have hlt := T.lt (p := p) (by omega)
    obtain ⟨-, -, -, hts⟩ := T.2.1 p hlt
    -- the owner
    obtain ⟨a, ha, hcx, hcm⟩ : ∃ a : Int32, (a = 0 ∨ a = 1) ∧ (∀ (k : Int32 → (Int32 × Int32) → Option (Int32 × (Nat → Int32) × (Nat → Int32) × (Nat → Int32) × Int32 × Int32 × Int32 × Int32 × (Nat → Int32) × (Nat → Int32) × Int32)),
        Option.bind (if c p = 101 then (some (0 : Int32)) else some 1) (fun q4 => Option.bind (α := (Int32 × (Nat → Int32) × (Nat → Int32) × (Nat → Int32) × Int32 × Int32 × Int32 × Int32 × (Nat → Int32) × (Nat → Int32) × Int32) ⊕ (Int32 × Int32)) (if q4 = 1 then (if nI (c p) = 111 then (some (.inr (fi, fr))) else (Option.bind (f_X2_blame N (nI p) 1 fi fr) (fun q15 => chk (isZ q15.1) (some (.inl (q15.1, o, r, w, nI P, q15.2.1, q15.2.2, nI p, wn, wi, wc)))))) else (some (.inr (fi, fr)))) (fun q8 => sm q8 some (fun t9 => k q4 t9))) = k a (fi, fr)) ∧ (if nI (c p) = 111 then (some (1 : Int32)) else some 0) = some a := by
      rcases eo with e | e
      · have hn : ¬ nI (c p) = 111 := nI_ne (b := 111) (by omega) (by omega) (by omega)
        refine ⟨0, Or.inl rfl, fun k => ?_, by rw [if_neg hn]⟩
        simp only [if_pos e, Option.bind_some, if_neg (show ¬ (0 : Int32) = 1 by decide), sm]
      · have hy : nI (c p) = 111 := by rw [e]; rfl
        refine ⟨1, Or.inr rfl, fun k => ?_, by rw [if_pos hy]⟩
        simp only [if_neg (show ¬ c p = 101 by omega), Option.bind_some, if_true, if_pos hy, sm]
    have hm0 : ∀ (k : Int32 → Option (Int32 × Int32 × Int32 × Int32 × (Nat → Int32) × (Nat → Int32) × (Nat → Int32) × (Nat → Int32) × (Nat → Int32))),
        Option.bind (α := (Int32 × Int32 × Int32 × Int32 × (Nat → Int32) × (Nat → Int32) × (Nat → Int32) × (Nat → Int32) × (Nat → Int32)) ⊕ (Int32)) (if (if c p = 101 then (1 : Int32) else 0) = 0 then (if (if c p = 111 then (1 : Int32) else 0) = 0 then (Option.bind (f_X4_fails N 1 rs) (fun q11 => chk (isZ q11.1) (some (.inl (q11.1, nI p, q11.2, nI P, ow, rk, st, ta, ln))))) else (some (.inr (rs)))) else (some (.inr (rs)))) (fun q4 => sm q4 some (fun t5 => k t5)) = k rs := fun k => by
      rcases eo with e | e
      · simp only [if_pos e, i10, Option.bind_some, sm]
      · simp only [if_neg (show ¬ c p = 101 by omega), if_true, if_pos e, i10, Option.bind_some, sm]
    have hdX := t_digit (N := N) (p := p + 1) T (by omega)
    have hdM := t_dig (N := N) (p := p + 1) T (by omega)
    have hgp := gi_ok (show p < 80 by omega) (by omega)
    have hgP := gi_ok hP (by omega)
    by_cases ed : 48 ≤ c (p + 1) ∧ c (p + 1) ≤ 57
    · rw [if_pos ed] at hdX hdM
      have hlt1 := T.lt (p := p + 1) (by omega)
      obtain ⟨-, -, -, hts1⟩ := T.2.1 (p + 1) hlt1
      have hgp1 := gi_ok (show p + 1 < 80 by omega) (by omega)
      have e3 : nI (c (p + 1)) - 48 = nI (c (p + 1) - 48) := nI_sub (d := 48) (by omega)
      have hge : (0 : Int32) ≤ nI (c (p + 1) - 48) := (nI_leI (a := 0) (by omega) (by omega)).mpr (Nat.zero_le _)
      have hrk := t_rank (N := N) (q := c (p + 1) - 48) (by omega)
      by_cases e6 : c (p + 1) - 48 < 6
      · rw [if_pos e6] at hrk
        have e6' : nI (c (p + 1) - 48) < 6 := nI_lt (b := 6) e6 (by omega)
        have hap := t_append (N := N) (a := a) (b := nI (c (p + 1) - 48)) (o := o) (r := r) (w := w) hP
        have hch2 := t_char (N := N) (p := p + 1 + 1) T (by omega)
        by_cases ec : c (p + 1 + 1) = 58
        · have ec' : nI (c (p + 1 + 1)) = 58 := by rw [ec]; rfl
          rw [if_pos ec] at e58
          have hlt2 := T.lt (p := p + 1 + 1) (by omega)
          obtain ⟨K, hK, hWS⟩ := PS_ways (q := p + 1 + 1 + 1) h (by omega)
          have hw := p_ways (N := N) (F := K) (by omega) T hP (L - (p + 1 + 1)) (p + 1 + 1) 0 N N (upd w P 0) fi fr wn wi wc rs (upd st P 0) ta ln (Nat.le_refl _) (by omega) hlt2 (by omega) (by omega) hWS
          rw [← hK] at hw
          rcases hw with ⟨x, y, tw', at', wn', wi', wc', st', ta', ln', g1, g2⟩ | ⟨p', tw', fi', fr', wn', wi', wc', rs', st', ta', ln', g1, g2, g3, g4, g5⟩
          · have g1 : f_X2_lookAtWays_L7 N wc cs (nI L) (nI (P + 1)) N 0 (upd w P 0) fi fr (nI (p + 1 + 1 + 1)) wn wi wc = _ := g1
            refine Or.inl ⟨x, y, upd o P a, upd r P (nI (c (p + 1) - 48)), tw', nI (P + 1), at', wn', wi', wc', nI P, upd ow P a, upd rk P (nI (c (p + 1) - 48)), st', ta', ln', ?_, ?_⟩
            · simp only [f_X2_lookAtPlace, hch, Option.bind_some, c101, hcx]
              simp only [Option.bind_some, nI_1, hdX, if_pos hge, hrk, i10, hap, hch2, if_pos ec', f_X2_lookAtWays, g1, sm, chk_t z0]
            · simp only [f_X4_readsPlace, e101, e111, Option.bind_some, hm0]
              simp only [Option.bind_some, chk_t hgp, nI_clamp (show p < 2 ^ 31 by omega), hts, hcm, chk_t hgP, nI_1, hdM, i10, chk_t hgp1, nI_clamp (show p + 1 < 2 ^ 31 by omega), nI_clamp (show P < 2 ^ 31 by omega), hts1, e3, upd_s, if_pos e6', e58, g2, if_true, chk_t z0]
              rw [show nI P + 0 = nI P from nI_add P 0]
          · have g1 : f_X2_lookAtWays_L7 N wc cs (nI L) (nI (P + 1)) N 0 (upd w P 0) fi fr (nI (p + 1 + 1 + 1)) wn wi wc = _ := g1
            refine Or.inr ⟨p', upd o P a, upd r P (nI (c (p + 1) - 48)), tw', fi', fr', wn', wi', wc', rs', upd ow P a, upd rk P (nI (c (p + 1) - 48)), st', ta', ln', ?_, ?_, g3, by omega, PS_next h0 ha e6 g5⟩
            · simp only [f_X2_lookAtPlace, hch, Option.bind_some, c101, hcx]
              simp only [Option.bind_some, nI_1, hdX, if_pos hge, hrk, i10, hap, hch2, if_pos ec', f_X2_lookAtWays, g1, sm, chk_t z1']
            · simp only [f_X4_readsPlace, e101, e111, Option.bind_some, hm0]
              simp only [Option.bind_some, chk_t hgp, nI_clamp (show p < 2 ^ 31 by omega), hts, hcm, chk_t hgP, nI_1, hdM, i10, chk_t hgp1, nI_clamp (show p + 1 < 2 ^ 31 by omega), nI_clamp (show P < 2 ^ 31 by omega), hts1, e3, upd_s, if_pos e6', e58, g2, if_true, chk_t z1']
        · have ec' : ¬ nI (c (p + 1 + 1)) = 58 := nI_ne (b := 58) (by have := T.le (p := p + 1 + 1); omega) (by omega) ec
          rw [if_neg ec] at e58
          obtain ⟨K, hK, hWS⟩ := PS_ways (q := p + 1 + 1) h (by omega)
          have g2 : f_X4_readsPlace_L155 N ts (nI L) (nI P) N 1 0 (nI (p + 1 + 1)) rs (upd st P 0) ta ln = some (1, nI (p + 1 + 1), rs, upd st P 0, ta, ln) := by
            obtain ⟨N', hN'⟩ : ∃ N', N = N' + 1 := ⟨N - 1, by omega⟩
            have key : ∀ M', f_X4_readsPlace_L155 N ts (nI L) (nI P) (M' + 1) 1 0 (nI (p + 1 + 1)) rs (upd st P 0) ta ln = some (1, nI (p + 1 + 1), rs, upd st P 0, ta, ln) := fun M' => by simp only [f_X4_readsPlace_L155, if_true]
            have := key N'
            rw [← hN'] at this
            exact this
          refine Or.inr ⟨p + 1 + 1, upd o P a, upd r P (nI (c (p + 1) - 48)), upd w P 0, fi, fr, wn, wi, wc, rs, upd ow P a, upd rk P (nI (c (p + 1) - 48)), upd st P 0, ta, ln, ?_, ?_, by omega, by omega, PS_next h0 ha e6 hWS⟩
          · simp only [f_X2_lookAtPlace, hch, Option.bind_some, c101, hcx]
            simp only [Option.bind_some, nI_1, hdX, if_pos hge, hrk, i10, hap, hch2, if_neg ec']
          · simp only [f_X4_readsPlace, e101, e111, Option.bind_some, hm0]
            simp only [Option.bind_some, chk_t hgp, nI_clamp (show p < 2 ^ 31 by omega), hts, hcm, chk_t hgP, nI_1, hdM, i10, chk_t hgp1, nI_clamp (show p + 1 < 2 ^ 31 by omega), nI_clamp (show P < 2 ^ 31 by omega), hts1, e3, upd_s, if_pos e6', e58, g2, if_true, chk_t z1']
      · rw [if_neg e6] at hrk
        have e6' : ¬ nI (c (p + 1) - 48) < 6 := nI_nlt (b := 6) (by omega) (by omega)
        refine Or.inl ⟨nI (p + 1), 2, o, r, w, nI P, nI (p + 1), wn, wi, wc, nI P, upd ow P a, upd rk P (nI (c (p + 1) - 48)), st, ta, ln, ?_, ?_⟩
        · simp only [f_X2_lookAtPlace, hch, Option.bind_some, c101, hcx]
          simp only [Option.bind_some, nI_1, hdX, if_pos hge, hrk, if_true, bl3, chk_t z0]
        · simp only [f_X4_readsPlace, e101, e111, Option.bind_some, hm0]
          simp only [Option.bind_some, chk_t hgp, nI_clamp (show p < 2 ^ 31 by omega), hts, hcm, chk_t hgP, nI_1, hdM, i10, chk_t hgp1, nI_clamp (show p + 1 < 2 ^ 31 by omega), nI_clamp (show P < 2 ^ 31 by omega), hts1, e3, upd_s, if_neg e6', f_X4_fails, chk_t z0]
    · rw [if_neg ed] at hdX hdM
      refine Or.inl ⟨nI (p + 1), 1, o, r, w, nI P, nI (p + 1), wn, wi, wc, nI P, upd ow P a, rk, st, ta, ln, ?_, ?_⟩
      · simp only [f_X2_lookAtPlace, hch, Option.bind_some, c101, hcx]
        simp only [Option.bind_some, nI_1, hdX, if_neg (show ¬ (0 : Int32) ≤ -1 by decide), bl3, chk_t z0]
      · simp only [f_X4_readsPlace, e101, e111, Option.bind_some, hm0]
        simp only [Option.bind_some, chk_t hgp, nI_clamp (show p < 2 ^ 31 by omega), hts, hcm, chk_t hgP, nI_1, hdM, if_true, nI_clamp (show P < 2 ^ 31 by omega), f_X4_fails, chk_t z0]
  · have n1 : ¬ c p = 101 := fun e => eo (Or.inl e)
    have n2 : ¬ c p = 111 := fun e => eo (Or.inr e)
    have n2' : ¬ nI (c p) = 111 := nI_ne (b := 111) (by have := T.le (p := p); omega) (by omega) n2
    refine Or.inl ⟨nI p, 1, o, r, w, nI P, nI p, wn, wi, wc, nI P, ow, rk, st, ta, ln, ?_, ?_⟩
    · simp only [f_X2_lookAtPlace, hch, Option.bind_some, c101, if_neg n1, if_true, if_neg n2', bl3, chk_t z0, sm]
    · simp only [f_X4_readsPlace, e101, e111, Option.bind_some, if_neg n1, if_neg n2, if_true, f_X4_fails, chk_t z0, sm]
