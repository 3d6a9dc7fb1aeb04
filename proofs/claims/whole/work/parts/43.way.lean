/-! texts: what both readers see, and one way -/
def TXT (c : Nat → Nat) (cs ts : Nat → Int32) (L : Nat) : Prop := L ≤ 80 ∧ (∀ p, p < L → 32 ≤ c p ∧ c p ≤ 126 ∧ cs p = nI (c p) ∧ ts p = nI (c p)) ∧ ∀ p, L ≤ p → c p = 0
theorem txt_of {len len' : Int32} {cs ts : Nat → Int32} (h : RTp len len' cs ts) : ∃ c L, len = nI L ∧ len' = nI L ∧ TXT c cs ts L := by
  obtain ⟨L, h1, h2, h3, h4⟩ := h
  refine ⟨fun p => if p < L then (cs p).toNatClampNeg else 0, L, h2, h3, h1, fun p hp => ?_, fun p hp => if_neg (by omega)⟩
  obtain ⟨c, c1, c2, c3, c4⟩ := h4 p hp
  have e : (if p < L then (cs p).toNatClampNeg else 0) = c := by rw [if_pos hp, c3, nI_clamp (by omega)]
  show 32 ≤ (if p < L then (cs p).toNatClampNeg else 0) ∧ (if p < L then (cs p).toNatClampNeg else 0) ≤ 126 ∧ cs p = nI (if p < L then (cs p).toNatClampNeg else 0) ∧ ts p = nI (if p < L then (cs p).toNatClampNeg else 0)
  rw [e]
  exact ⟨c1, c2, c3, c4⟩
theorem TXT.le {c : Nat → Nat} {cs ts : Nat → Int32} {L p : Nat} (T : TXT c cs ts L) : c p ≤ 126 := by
  by_cases e : p < L
  · exact (T.2.1 p e).2.1
  · rw [T.2.2 p (by omega)]; omega
theorem TXT.lt {c : Nat → Nat} {cs ts : Nat → Int32} {L p : Nat} (T : TXT c cs ts L) (h : 0 < c p) : p < L := by
  apply Classical.byContradiction
  intro e
  rw [T.2.2 p (by omega)] at h
  omega
theorem t_char {N L p : Nat} {c : Nat → Nat} {cs ts : Nat → Int32} (T : TXT c cs ts L) (hp : p < 200) : f_X2_character N cs (nI L) (nI p) = some (nI (c p)) := by
  have hL := T.1
  by_cases e : p < L
  · obtain ⟨h1, h2, h3, -⟩ := T.2.1 p e
    have hc : isC (nI (c p)) = true := by
      have key : ∀ x, x < 127 → isC (nI x) = true := by decide +kernel
      exact key _ (by omega)
    have h80 : ¬ (80 : Int32) ≤ nI p := nI_ge (b := 80) (by omega) (by omega)
    simp only [f_X2_character, if_neg (show ¬ nI p < 0 from nI_pos (by omega)), if_neg (show ¬ nI L ≤ nI p from nI_ge e (by omega)), if_neg h80, chk_t (gi_ok (show p < 80 by omega) (by omega)), nI_clamp (show p < 2 ^ 31 by omega), h3, chk_t hc]
  · rw [T.2.2 p (by omega)]
    simp only [f_X2_character, if_neg (show ¬ nI p < 0 from nI_pos (by omega)), if_pos (show nI L ≤ nI p from (nI_leI (by omega) (by omega)).mpr (by omega))]
    rfl
theorem t_digit {N L p : Nat} {c : Nat → Nat} {cs ts : Nat → Int32} (T : TXT c cs ts L) (hp : p < 200) : f_X2_digit N cs (nI L) (nI p) = some (if 48 ≤ c p ∧ c p ≤ 57 then nI (c p - 48) else -1) := by
  have h126 := T.le (p := p)
  simp only [f_X2_digit, t_char T hp, Option.bind_some]
  by_cases e1 : c p < 48
  · have e1' : nI (c p) < 48 := nI_lt (b := 48) e1 (by omega)
    rw [if_pos e1', if_neg (by omega)]
  · have e1' : ¬ nI (c p) < 48 := nI_nlt (b := 48) (by omega) (by omega)
    rw [if_neg e1']
    by_cases e2 : 57 < c p
    · have e2' : (57 : Int32) < nI (c p) := nI_lt (a := 57) e2 (by omega)
      rw [if_pos e2', if_neg (by omega)]
    · have e2' : ¬ (57 : Int32) < nI (c p) := nI_nlt (a := 57) (by omega) (by omega)
      have e3 : nI (c p) - 48 = nI (c p - 48) := nI_sub (d := 48) (by omega)
      rw [if_neg e2', if_pos ⟨by omega, by omega⟩, e3]
theorem t_isAt {N L p lo hi : Nat} {c : Nat → Nat} {cs ts : Nat → Int32} (T : TXT c cs ts L) (hp : p < 200) (h0 : 0 < lo) (hl : lo ≤ hi) (hh : hi < 1000) : f_X4_isAt N (nI lo) (nI hi) ts (nI L) (nI p) = some (if lo ≤ c p ∧ c p ≤ hi then 1 else 0) := by
  have hL := T.1
  by_cases e : p < L
  · obtain ⟨h1, h2, -, h3⟩ := T.2.1 p e
    simp only [f_X4_isAt, if_neg (show ¬ nI L ≤ nI p from nI_ge e (by omega)), chk_t (gi_ok (show p < 80 by omega) (by omega)), nI_clamp (show p < 2 ^ 31 by omega), h3]
    rcases in_dec (N := N) (a := lo) (b := hi) (nI (c p)) (by omega) hl with ⟨j, j1, j2, j3, j4⟩ | ⟨j1, j2⟩
    · have : c p = j := (nI_eq (by omega) (by omega)).mp j3
      rw [j4, if_pos ⟨by omega, by omega⟩]
      rfl
    · rw [j1, if_neg (fun h => j2 (c p) h.1 h.2 rfl)]
      rfl
  · rw [T.2.2 p (by omega), if_neg (by omega)]
    simp only [f_X4_isAt, if_pos (show nI L ≤ nI p from (nI_leI (by omega) (by omega)).mpr (by omega))]
theorem t_isAt1 {N L p a : Nat} {c : Nat → Nat} {cs ts : Nat → Int32} (T : TXT c cs ts L) (hp : p < 200) (h0 : 0 < a) (hh : a < 1000) : f_X4_isAt N (nI a) (nI a) ts (nI L) (nI p) = some (if c p = a then 1 else 0) := by
  rw [t_isAt T hp h0 (Nat.le_refl _) hh]
  by_cases e : c p = a
  · rw [if_pos e, if_pos (by omega)]
  · rw [if_neg e, if_neg (by omega)]
theorem t_dig {N L p : Nat} {c : Nat → Nat} {cs ts : Nat → Int32} (T : TXT c cs ts L) (hp : p < 200) : f_X4_isAt N 48 57 ts (nI L) (nI p) = some (if 48 ≤ c p ∧ c p ≤ 57 then 1 else 0) := t_isAt (lo := 48) (hi := 57) T hp (by omega) (by omega) (by omega)
/-- a number of one or two digits -/
theorem t_num {N L p : Nat} {c : Nat → Nat} {cs ts : Nat → Int32} (T : TXT c cs ts L) (hd : 48 ≤ c p ∧ c p ≤ 57) : ∃ v p', v < 100 ∧ p < p' ∧ p' ≤ L ∧
    ((if nI (c p - 48) ≤ 0 then (some (nI (c p - 48), nI p + 1)) else (Option.bind (f_X2_digit N cs (nI L) (nI p + 1)) (fun q9 => if q9 < 0 then (some (nI (c p - 48), nI p + 1)) else (Option.bind (f_X2_digit N cs (nI L) (nI p + 1)) (fun q12 => some ((nI (c p - 48) * 10) + q12, (nI p + 1) + 1))))) : Option (Int32 × Int32)) = some (nI v, nI p')) ∧
    ((if nI (c p - 48) ≤ 0 then (some (nI (c p - 48), nI p + 1)) else (Option.bind (f_X4_isAt N 48 57 ts (nI L) (nI p + 1)) (fun q9 => if q9 = 0 then (some (nI (c p - 48), nI p + 1)) else (chk (gi (nI p + 1) 80) (some (((10 * nI (c p - 48)) + (ts (Int32.toNatClampNeg (nI p + 1)))) - 48, (nI p + 1) + 1))))) : Option (Int32 × Int32)) = some (nI v, nI p')) := by
  have hL := T.1
  have hp := T.lt (p := p) (by omega)
  obtain ⟨h1, h2, h3, h4⟩ := T.2.1 p hp
  have e3 : nI (c p) - 48 = nI (c p - 48) := nI_sub (d := 48) (by omega)
  simp only [nI_1, nI_clamp (show p < 2 ^ 31 by omega), nI_clamp (show p + 1 < 2 ^ 31 by omega), h4, e3, t_digit (N := N) T (show p + 1 < 200 by omega), t_dig (N := N) T (show p + 1 < 200 by omega), Option.bind_some]
  by_cases e0 : c p = 48
  · have e0' : nI (c p - 48) ≤ 0 := (nI_leI (b := 0) (by omega) (by omega)).mpr (by omega)
    exact ⟨c p - 48, p + 1, by omega, by omega, by omega, by rw [if_pos e0'], by rw [if_pos e0']⟩
  · have e0' : ¬ nI (c p - 48) ≤ 0 := fun h => by have := (nI_leI (b := 0) (by omega) (by omega)).mp h; omega
    by_cases e1 : 48 ≤ c (p + 1) ∧ c (p + 1) ≤ 57
    · have hp1 := T.lt (p := p + 1) (by omega)
      obtain ⟨g1, g2, g3, g4⟩ := T.2.1 (p + 1) hp1
      refine ⟨10 * (c p - 48) + (c (p + 1) - 48), p + 2, by omega, by omega, by omega, ?_, ?_⟩
      · have ee : nI (c p - 48) * 10 + nI (c (p + 1) - 48) = nI (10 * (c p - 48) + (c (p + 1) - 48)) := by
          rw [show nI (c p - 48) * 10 = nI ((c p - 48) * 10) from pk_mul (c p - 48) 10, nI_add, Nat.mul_comm]
        rw [if_neg e0', if_pos e1, if_neg (show ¬ nI (c (p + 1) - 48) < 0 from nI_pos (by omega)), ee]
      · have ee : ((10 : Int32) * nI (c p - 48) + ts (p + 1)) - 48 = nI (10 * (c p - 48) + (c (p + 1) - 48)) := by
          rw [show (10 : Int32) * nI (c p - 48) = nI (10 * (c p - 48)) from pk_mul 10 (c p - 48), g4, nI_add]
          have := nI_sub (a := 10 * (c p - 48) + c (p + 1)) (d := 48) (by omega)
          refine this.trans ?_
          congr 1; omega
        rw [if_neg e0', if_pos e1, if_neg (show ¬ (1 : Int32) = 0 by decide), chk_t (gi_ok (show p + 1 < 80 by omega) (by omega)), ee]
    · refine ⟨c p - 48, p + 1, by omega, by omega, by omega, ?_, ?_⟩
      · rw [if_neg e0', if_neg e1, if_pos (by decide)]
      · rw [if_neg e0', if_neg e1, if_pos rfl]
/-- the ways that were told: both lists of them -/
def WV (K P F p : Nat) (num ix : Nat → Nat) (wn wi ta ln : Nat → Int32) : Prop :=
  K ≤ p ∧ (∀ i, i < K → wn i = nI (num i) ∧ num i < 100 ∧ wi i = nI (ix i) ∧ ix i < p) ∧ (∀ i j, i < j → j < K → ix i < ix j) ∧
  (∀ v, v < 100 → (ta v = -1 ∧ ∀ i, i < K → num i ≠ v) ∨ (∃ i, i < K ∧ num i = v ∧ ta v = nI (ix i) ∧ ∀ j, j < i → num j ≠ v)) ∧
  (∀ v, v < 100 → ∃ x, x ≤ P + 1 ∧ ln v = nI x ∧ (x = P + 1 ↔ ∃ i, F ≤ i ∧ i < K ∧ num i = v))
def WS (P F p : Nat) (tw wn wi : Nat → Int32) (wc : Int32) (st ta ln : Nat → Int32) : Prop :=
  ∃ K num ix, F ≤ K ∧ wc = nI K ∧ WV K P F p num ix wn wi ta ln ∧ ∀ v, v < P + 1 → st v = tw v ∧ ∀ u, bt (tw v) u = true → u < 12 ∧ ∃ i, i < K ∧ num i = u
theorem t_since {N K F v : Nat} {num : Nat → Nat} {wn : Nat → Int32} (hN : 100 ≤ N) (hK : K ≤ 80) (hF : F ≤ K) (hv : v < 100) (hw : ∀ i, i < K → wn i = nI (num i) ∧ num i < 100) :
    (f_X2_isToldSince N (nI F) (nI v) wn (nI K) = some 1 ∧ ∃ i, F ≤ i ∧ i < K ∧ num i = v) ∨ (f_X2_isToldSince N (nI F) (nI v) wn (nI K) = some 0 ∧ ¬ ∃ i, F ≤ i ∧ i < K ∧ num i = v) := by
  obtain ⟨y, e1, e2⟩ := for_inv (fun m j (_ : Unit) => f_X2_isToldSince_L2 N (nI v) wn (nI K) m j) K (fun k _ => F ≤ k ∧ ∀ i, F ≤ i → i < k → num i ≠ v) (fun y => (y = .inl 1 ∧ ∃ i, F ≤ i ∧ i < K ∧ num i = v) ∨ (y = .inr () ∧ ¬ ∃ i, F ≤ i ∧ i < K ∧ num i = v))
    (fun m t h => ⟨.inr (), by simp only [f_X2_isToldSince_L2]; rw [if_pos (Int32.le_refl _)], Or.inr ⟨rfl, fun ⟨i, i1, i2, i3⟩ => h.2 i i1 i2 i3⟩⟩)
    (fun m k t hk h => by
      have k1 : ¬ nI K ≤ nI k := nI_ge hk (by omega)
      have k2 := gi_ok (show k < 80 by omega) (by omega)
      obtain ⟨w1, w2⟩ := hw k hk
      by_cases e : num k = v
      · exact Or.inl ⟨.inl 1, by simp only [f_X2_isToldSince_L2, if_neg k1, chk_t k2, nI_clamp (show k < 2 ^ 31 by omega), w1, e, if_true], Or.inl ⟨rfl, k, h.1, hk, e⟩⟩
      · have e' : ¬ nI (num k) = nI v := nI_ne (by omega) (by omega) e
        refine Or.inr ⟨(), by simp only [f_X2_isToldSince_L2, if_neg k1, chk_t k2, nI_clamp (show k < 2 ^ 31 by omega), w1, if_neg e', nI_1], by omega, fun i h1 h2 => ?_⟩
        by_cases ei : i = k
        · rw [ei]; exact e
        · exact h.2 i h1 (by omega))
    F N () hF (by omega) ⟨Nat.le_refl _, fun i h1 h2 => by omega⟩
  have e1 : f_X2_isToldSince_L2 N (nI v) wn (nI K) N (nI F) = some y := e1
  rcases e2 with ⟨e2, e3⟩ | ⟨e2, e3⟩
  · exact Or.inl ⟨by simp only [f_X2_isToldSince, e1, e2, Option.bind_some, sm], e3⟩
  · exact Or.inr ⟨by simp only [f_X2_isToldSince, e1, e2, Option.bind_some, sm], e3⟩
