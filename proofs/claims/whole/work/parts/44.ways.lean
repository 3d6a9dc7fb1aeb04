/-! texts: the ways of a place -/
theorem WS_tell {K P F p q v : Nat} {num ix : Nat → Nat} {wn wi ta ln tw st tw' st' : Nat → Int32} {tv : Int32} (hW : WV K P F p num ix wn wi ta ln) (hFK : F ≤ K) (hf : ∀ v, v < P + 1 → st v = tw v ∧ ∀ u, bt (tw v) u = true → u < 12 ∧ ∃ i, i < K ∧ num i = u)
    (hv : v < 100) (hno : ¬ ∃ i, F ≤ i ∧ i < K ∧ num i = v) (hq : p < q) (hp : p < 100) (ht : tv = if 0 ≤ ta v then ta v else nI p) (htw : tw' = if 12 ≤ v then tw else upd tw P (tw P ||| bit v)) (hst : st' = upd st P (st P ||| if 12 ≤ v then 0 else bit v)) :
    WS P F q tw' (upd wn K (nI v)) (upd wi K (nI p)) (nI (K + 1)) st' (upd ta v tv) (upd ln v (nI (P + 1))) := by
  obtain ⟨w1, w2, w3, w4, w5⟩ := hW
  have nK : ∀ i, i < K → (if i = K then v else num i) = num i := fun i hi => if_neg (by omega)
  have xK : ∀ i, i < K → (if i = K then p else ix i) = ix i := fun i hi => if_neg (by omega)
  have nS : (if K = K then v else num K) = v := if_pos rfl
  have xS : (if K = K then p else ix K) = p := if_pos rfl
  refine ⟨K + 1, fun i => if i = K then v else num i, fun i => if i = K then p else ix i, by omega, rfl, ⟨by omega, fun i hi => ?_, fun i j hij hj => ?_, fun u hu => ?_, fun u hu => ?_⟩, fun x hx => ?_⟩
  · by_cases e : i = K
    · subst e
      show upd wn i (nI v) i = nI (if i = i then v else num i) ∧ (if i = i then v else num i) < 100 ∧ upd wi i (nI p) i = nI (if i = i then p else ix i) ∧ (if i = i then p else ix i) < q
      rw [nS, xS, upd_s, upd_s]
      exact ⟨rfl, hv, rfl, hq⟩
    · have hi' : i < K := by omega
      obtain ⟨a1, a2, a3, a4⟩ := w2 i hi'
      show upd wn K (nI v) i = nI (if i = K then v else num i) ∧ (if i = K then v else num i) < 100 ∧ upd wi K (nI p) i = nI (if i = K then p else ix i) ∧ (if i = K then p else ix i) < q
      rw [nK i hi', xK i hi', upd_n e, upd_n e]
      exact ⟨a1, a2, a3, by omega⟩
  · show (if i = K then p else ix i) < (if j = K then p else ix j)
    rw [xK i (by omega)]
    by_cases e : j = K
    · rw [if_pos e]; exact (w2 i (by omega)).2.2.2
    · rw [if_neg e]; exact w3 i j hij (by omega)
  · show (upd ta v tv u = -1 ∧ ∀ i, i < K + 1 → (if i = K then v else num i) ≠ u) ∨ ∃ i, i < K + 1 ∧ (if i = K then v else num i) = u ∧ upd ta v tv u = nI (if i = K then p else ix i) ∧ ∀ j, j < i → (if j = K then v else num j) ≠ u
    by_cases e : u = v
    · subst e
      rw [upd_s]
      rcases w4 u hu with ⟨a1, a2⟩ | ⟨i, a1, a2, a3, a4⟩
      · refine Or.inr ⟨K, by omega, nS, ?_, fun j hj => by rw [nK j hj]; exact a2 j hj⟩
        rw [ht, a1, if_neg (by decide), xS]
      · refine Or.inr ⟨i, by omega, by rw [nK i a1]; exact a2, ?_, fun j hj => by rw [nK j (by omega)]; exact a4 j hj⟩
        have := (w2 i a1).2.2.2
        have h0 : (0 : Int32) ≤ nI (ix i) := (nI_leI (a := 0) (by omega) (by omega)).mpr (Nat.zero_le _)
        rw [ht, a3, if_pos h0, xK i a1]
    · rw [upd_n e]
      rcases w4 u hu with ⟨a1, a2⟩ | ⟨i, a1, a2, a3, a4⟩
      · refine Or.inl ⟨a1, fun i hi => ?_⟩
        by_cases ei : i = K
        · rw [if_pos ei]; exact fun h => e h.symm
        · rw [if_neg ei]; exact a2 i (by omega)
      · exact Or.inr ⟨i, by omega, by rw [nK i a1]; exact a2, by rw [xK i a1]; exact a3, fun j hj => by rw [nK j (by omega)]; exact a4 j hj⟩
  · show ∃ x, x ≤ P + 1 ∧ upd ln v (nI (P + 1)) u = nI x ∧ (x = P + 1 ↔ ∃ i, F ≤ i ∧ i < K + 1 ∧ (if i = K then v else num i) = u)
    by_cases e : u = v
    · subst e
      exact ⟨P + 1, Nat.le_refl _, upd_s, fun _ => ⟨K, hFK, by omega, nS⟩, fun _ => rfl⟩
    · obtain ⟨x, x1, x2, x3⟩ := w5 u hu
      refine ⟨x, x1, by rw [upd_n e]; exact x2, fun h => ?_, fun h => ?_⟩
      · obtain ⟨i, i1, i2, i3⟩ := x3.mp h
        exact ⟨i, i1, by omega, by rw [nK i i2]; exact i3⟩
      · obtain ⟨i, i1, i2, i3⟩ := h
        by_cases ei : i = K
        · rw [if_pos ei] at i3; exact absurd i3.symm e
        · rw [if_neg ei] at i3
          exact x3.mpr ⟨i, i1, by omega, i3⟩
  · obtain ⟨f1, f2⟩ := hf x hx
    have old : ∀ u, bt (tw x) u = true → u < 12 ∧ ∃ i, i < K + 1 ∧ (if i = K then v else num i) = u := fun u hu => by
      obtain ⟨g1, i, g2, g3⟩ := f2 u hu
      exact ⟨g1, i, by omega, by rw [nK i g2]; exact g3⟩
    subst htw
    subst hst
    by_cases e12 : 12 ≤ v
    · rw [if_pos e12, if_pos e12]
      refine ⟨?_, old⟩
      by_cases ex : x = P
      · rw [ex, upd_s, or0, ← ex]; exact f1
      · rw [upd_n ex]; exact f1
    · rw [if_neg e12, if_neg e12]
      by_cases ex : x = P
      · subst ex
        rw [upd_s, upd_s]
        refine ⟨by rw [f1], fun u hu => ?_⟩
        by_cases e32 : u < 32
        · rw [b_or] at hu
          unfold bit at hu
          rw [bt_bit (by omega) e32] at hu
          by_cases eu : u = v
          · exact ⟨by omega, K, by omega, by rw [eu]; exact nS⟩
          · exact old u (by simpa [eu] using hu)
        · rw [b_big (by omega)] at hu; exact absurd hu (by decide)
      · rw [upd_n ex, upd_n ex]
        exact ⟨f1, old⟩
theorem t_tell {N K P p v : Nat} {tw wn wi : Nat → Int32} (hK : K < 80) (hP : P < 12) (hv : v < 100) : f_X2_tellWay N (nI p) (nI v) tw (nI (P + 1)) wn wi (nI K) = some (if 12 ≤ v then tw else upd tw P (tw P ||| bit v), upd wn K (nI v), upd wi K (nI p), nI (K + 1)) := by
  have h80 : ¬ (80 : Int32) ≤ nI K := nI_ge (b := 80) hK (by omega)
  simp only [f_X2_tellWay, if_neg h80, chk_t (gi_ok (show K < 80 by omega) (by omega)), nI_clamp (show K < 2 ^ 31 by omega), nI_1, Option.bind_some, nI_pred, has_ok (n := P + 1) (by omega) (Nat.lt_succ_self P), i10]
  by_cases e : 12 ≤ v
  · have e' : (12 : Int32) ≤ nI v := (nI_leI (a := 12) (by omega) (by omega)).mpr e
    rw [if_pos e', if_pos e]
  · have e' : ¬ (12 : Int32) ≤ nI v := nI_ge (b := 12) (by omega) (by omega)
    rw [if_neg e', if_neg e, chk_t (gi_ok (show P < 12 by omega) (by omega)), chk_t (gi_ok (show P < 12 by omega) (by omega)), nI_clamp (by omega)]
    rfl
theorem t_44 {N L p : Nat} {c : Nat → Nat} {cs ts : Nat → Int32} (T : TXT c cs ts L) (hp : p < 200) : f_X4_isAt N 44 44 ts (nI L) (nI p) = some (if c p = 44 then 1 else 0) := t_isAt1 (a := 44) T hp (by omega) (by omega)
theorem bl3 {N : Nat} {a b x y : Int32} : f_X2_blame N a b x y = some (0, a, b) := rfl
theorem z0 : isZ 0 = true := by decide
theorem z1' : isZ 1 = true := by decide
theorem r_way0 {N L p P : Nat} {c : Nat → Nat} {cs ts st ta ln : Nat → Int32} {rs : Int32} (T : TXT c cs ts L) (hp : p < 200) (hd : ¬ (48 ≤ c p ∧ c p ≤ 57)) : f_X4_readsWay N ts (nI L) (nI p) rs (nI P) st ta ln = some (0, nI p, 1, st, ta, ln) := by
  simp only [f_X4_readsWay, t_dig (N := N) T hp, if_neg hd, Option.bind_some, if_true, f_X4_fails, chk_t z0]
/-- one way, read by both -/
theorem r_way {N L p P : Nat} {c : Nat → Nat} {cs ts st ta ln : Nat → Int32} {rs : Int32} (T : TXT c cs ts L) (hd : 48 ≤ c p ∧ c p ≤ 57) (hP : P < 12) (hln : ∀ v, v < 100 → ∃ x, x ≤ P + 1 ∧ ln v = nI x) :
    ∃ v p', v < 100 ∧ p < p' ∧ p' ≤ L ∧ ((if nI (c p - 48) ≤ 0 then (some (nI (c p - 48), nI p + 1)) else (Option.bind (f_X2_digit N cs (nI L) (nI p + 1)) (fun q9 => if q9 < 0 then (some (nI (c p - 48), nI p + 1)) else (Option.bind (f_X2_digit N cs (nI L) (nI p + 1)) (fun q12 => some ((nI (c p - 48) * 10) + q12, (nI p + 1) + 1))))) : Option (Int32 × Int32)) = some (nI v, nI p')) ∧
      (ln v = nI (P + 1) → f_X4_readsWay N ts (nI L) (nI p) rs (nI P) st ta ln = some (0, nI p, 3, st, ta, ln)) ∧
      (¬ ln v = nI (P + 1) → f_X4_readsWay N ts (nI L) (nI p) rs (nI P) st ta ln = some (1, nI p', rs, upd st P (st P ||| if 12 ≤ v then 0 else bit v), upd ta v (if 0 ≤ ta v then ta v else nI p), upd ln v (nI (P + 1)))) := by
  have hL := T.1
  have hp := T.lt (p := p) (by omega)
  obtain ⟨h1, h2, h3, h4⟩ := T.2.1 p hp
  have e3 : nI (c p) - 48 = nI (c p - 48) := nI_sub (d := 48) (by omega)
  obtain ⟨v, p', hv, hpp, hpl, n1, n2⟩ := t_num (N := N) T hd
  refine ⟨v, p', hv, hpp, hpl, n1, fun e => ?_, fun e => ?_⟩
  · simp only [f_X4_readsWay, t_dig (N := N) T (show p < 200 by omega), if_pos hd, Option.bind_some, i10, chk_t (gi_ok (show p < 80 by omega) (by omega)), nI_clamp (show p < 2 ^ 31 by omega), h4, e3, n2, chk_t (gi_ok (show v < 100 by omega) (by omega)), nI_clamp (show v < 2 ^ 31 by omega), nI_1 P, e, if_true, f_X4_fails, chk_t z0]
  · have h12 : (if (12 : Int32) ≤ nI v then some (0 : Int32) else some (1 <<< (nI v &&& 31))) = some (if 12 ≤ v then 0 else bit v) := by
      by_cases ev : 12 ≤ v
      · have e' : (12 : Int32) ≤ nI v := (nI_leI (a := 12) (by omega) (by omega)).mpr ev
        rw [if_pos e', if_pos ev]
      · have e' : ¬ (12 : Int32) ≤ nI v := nI_ge (b := 12) (by omega) (by omega)
        rw [if_neg e', if_neg ev]; rfl
    have hta : (if 0 ≤ ta v then some (ta v) else some (nI p)) = some (if 0 ≤ ta v then ta v else nI p) := by split <;> rfl
    have n2' := n2
    simp only [nI_1] at n2'
    simp only [f_X4_readsWay, t_dig (N := N) T (show p < 200 by omega), if_pos hd, Option.bind_some, i10, chk_t (gi_ok (show p < 80 by omega) (by omega)), nI_clamp (show p < 2 ^ 31 by omega), h4, e3, n2, chk_t (gi_ok (show v < 100 by omega) (by omega)), nI_clamp (show v < 2 ^ 31 by omega), nI_1 P, if_neg e, chk_t (gi_ok (show P < 12 by omega) (by omega)), nI_clamp (show P < 2 ^ 31 by omega), hta, h12]
/-- the ways of a place, read by both -/
def WJ (P F L p : Nat) (A : Option ((Int32 × (Nat → Int32) × Int32 × Int32 × Int32 × (Nat → Int32) × (Nat → Int32) × Int32) ⊕ ((Nat → Int32) × Int32 × Int32 × Int32 × (Nat → Int32) × (Nat → Int32) × Int32))) (B : Option (Int32 × Int32 × Int32 × (Nat → Int32) × (Nat → Int32) × (Nat → Int32))) : Prop :=
  (∃ x y tw' at' wn' wi' wc' st' ta' ln', A = some (.inl (0, tw', x, y, at', wn', wi', wc')) ∧ B = some (0, x, y, st', ta', ln')) ∨
  (∃ p' tw' fi' fr' wn' wi' wc' rs' st' ta' ln', A = some (.inr (tw', fi', fr', nI p', wn', wi', wc')) ∧ B = some (1, nI p', rs', st', ta', ln') ∧ p' ≤ L ∧ p < p' ∧ WS P F p' tw' wn' wi' wc' st' ta' ln')
theorem p_ways {N L P F : Nat} {c : Nat → Nat} {cs ts : Nat → Int32} (hN : 100 ≤ N) (T : TXT c cs ts L) (hP : P < 12) : ∀ d p0 i m m' tw fi fr wn wi wc rs st ta ln, L - p0 ≤ d → i ≤ p0 → p0 < L → d < m → d + 1 < m' → WS P F (p0 + 1) tw wn wi wc st ta ln →
    WJ P F L p0 (f_X2_lookAtWays_L7 N (nI F) cs (nI L) (nI (P + 1)) m (nI i) tw fi fr (nI (p0 + 1)) wn wi wc) (f_X4_readsPlace_L155 N ts (nI L) (nI P) m' 1 1 (nI p0) rs st ta ln) := by
  have hL := T.1
  intro d
  induction d with
  | zero => intro p0 i m m' tw fi fr wn wi wc rs st ta ln hd hi hp; omega
  | succ d ih =>
    intro p0 i m m' tw fi fr wn wi wc rs st ta ln hd hi hp hm hm' hWS
    obtain ⟨m, rfl⟩ : ∃ z, m = z + 1 := ⟨m - 1, by omega⟩
    obtain ⟨m', rfl⟩ : ∃ z, m' = z + 2 := ⟨m' - 2, by omega⟩
    obtain ⟨K, num, ix, hFK, rfl, hW, hf⟩ := hWS
    have h80 : ¬ (80 : Int32) ≤ nI i := nI_ge (b := 80) (by omega) (by omega)
    by_cases hdig : 48 ≤ c (p0 + 1) ∧ c (p0 + 1) ≤ 57
    · obtain ⟨v, p', hv, hpp, hpl, n1, q1, q2⟩ := r_way (N := N) (rs := rs) (st := st) (ta := ta) T hdig hP (fun v hv => by
        obtain ⟨x, x1, x2, -⟩ := hW.2.2.2.2 v hv
        exact ⟨x, x1, x2⟩)
      have hdd : f_X2_digit N cs (nI L) (nI (p0 + 1)) = some (nI (c (p0 + 1) - 48)) := by rw [t_digit T (by omega), if_pos hdig]
      have hge : (0 : Int32) ≤ nI (c (p0 + 1) - 48) := (nI_leI (a := 0) (by omega) (by have := T.le (p := p0 + 1); omega)).mpr (Nat.zero_le _)
      have hp1 := T.lt (p := p0 + 1) (by omega)
      have hK : K < 80 := by have := hW.1; omega
      obtain ⟨x, x1, x2, x3⟩ := hW.2.2.2.2 v hv
      rcases t_since (N := N) (K := K) (F := F) (v := v) (num := num) (wn := wn) hN (by omega) hFK hv (fun i hi => ⟨(hW.2.1 i hi).1, (hW.2.1 i hi).2.1⟩) with ⟨s1, s2⟩ | ⟨s1, s2⟩
      · have hlv : ln v = nI (P + 1) := by rw [x2, x3.mpr s2]
        refine Or.inl ⟨nI (p0 + 1), 3, tw, nI p', wn, wi, nI K, st, ta, ln, ?_, ?_⟩
        · simp only [f_X2_lookAtWays_L7, if_neg h80, hdd, Option.bind_some, if_pos hge, n1, s1, i10, bl3, chk_t z0]
        · simp only [f_X4_readsPlace_L155, i10, nI_1 p0, q1 hlv, Option.bind_some]
          rw [t_44 T (show p0 + 1 < 200 by omega)]
          simp only [Option.bind_some, if_true]
          split <;> rfl
      · have hlv : ¬ ln v = nI (P + 1) := by
          rw [x2]
          exact nI_ne (by omega) (by omega) (fun h => s2 (x3.mp h))
        have hnew := WS_tell (q := p') hW hFK hf hv s2 (by omega) (by omega) rfl rfl rfl
        have htell := t_tell (N := N) (p := p0 + 1) (tw := tw) (wn := wn) (wi := wi) hK hP hv
        have hchar := t_char (N := N) (p := p') T (by omega)
        have h44 : f_X4_isAt N 44 44 ts (nI L) (nI p') = some (if c p' = 44 then 1 else 0) := t_isAt1 (a := 44) T (by omega) (by omega) (by omega)
        by_cases ec : c p' = 44
        · rw [if_pos ec] at h44
          have hlt := T.lt (p := p') (by omega)
          have hnew2 := WS_tell (q := p' + 1) hW hFK hf hv s2 (by omega) (by omega) rfl rfl rfl
          rcases ih p' (i + 1) m (m' + 1) _ fi fr _ _ _ rs _ _ _ (by omega) (by omega) hlt (by omega) (by omega) hnew2 with ⟨x, y, tw', at', wn', wi', wc', st', ta', ln', g1, g2⟩ | ⟨p2, tw', fi', fr', wn', wi', wc', rs', st', ta', ln', g1, g2, g3, g4, g5⟩
          · refine Or.inl ⟨x, y, tw', at', wn', wi', wc', st', ta', ln', ?_, ?_⟩
            · rw [← g1]
              simp only [f_X2_lookAtWays_L7, if_neg h80, hdd, Option.bind_some, if_pos hge, n1, s1, if_true, htell, hchar, ec, nI_1 i, nI_1 p']
              rfl
            · rw [← g2]
              rw [f_X4_readsPlace_L155]
              simp only [i10, nI_1 p0, q2 hlv, Option.bind_some, h44]
          · refine Or.inr ⟨p2, tw', fi', fr', wn', wi', wc', rs', st', ta', ln', ?_, ?_, g3, by omega, g5⟩
            · rw [← g1]
              simp only [f_X2_lookAtWays_L7, if_neg h80, hdd, Option.bind_some, if_pos hge, n1, s1, if_true, htell, hchar, ec, nI_1 i, nI_1 p']
              rfl
            · rw [← g2]
              rw [f_X4_readsPlace_L155]
              simp only [i10, nI_1 p0, q2 hlv, Option.bind_some, h44]
        · rw [if_neg ec] at h44
          have ec' : ¬ nI (c p') = 44 := nI_ne (b := 44) (by have := T.le (p := p'); omega) (by omega) ec
          refine Or.inr ⟨p', _, fi, fr, _, _, _, rs, _, _, _, ?_, ?_, hpl, by omega, hnew⟩
          · simp only [f_X2_lookAtWays_L7, if_neg h80, hdd, Option.bind_some, if_pos hge, n1, s1, if_true, htell, hchar, if_neg ec']
          · simp only [f_X4_readsPlace_L155, i10, nI_1 p0, q2 hlv, Option.bind_some, h44, if_true]
    · have hdd : f_X2_digit N cs (nI L) (nI (p0 + 1)) = some (-1) := by rw [t_digit T (by omega), if_neg hdig]
      have hno := r_way0 (N := N) (rs := rs) (P := P) (st := st) (ta := ta) (ln := ln) T (show p0 + 1 < 200 by omega) hdig
      refine Or.inl ⟨nI (p0 + 1), 1, tw, nI (p0 + 1), wn, wi, nI K, st, ta, ln, ?_, ?_⟩
      · simp only [f_X2_lookAtWays_L7, if_neg h80, hdd, Option.bind_some, if_neg (show ¬ (0 : Int32) ≤ -1 by decide), bl3, chk_t z0]
      · simp only [f_X4_readsPlace_L155, i10, nI_1 p0, hno, Option.bind_some]
        rw [t_44 T (show p0 + 1 < 200 by omega)]
        simp only [Option.bind_some, if_true]
        split <;> rfl
