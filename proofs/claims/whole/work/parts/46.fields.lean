/-! texts: all places, and the ways to nowhere -/
def PLJ (L : Nat) (A : Option ((Int32 × (Nat → Int32) × (Nat → Int32) × (Nat → Int32) × Int32 × Int32 × Int32 × Int32 × (Nat → Int32) × (Nat → Int32) × Int32) ⊕ ((Nat → Int32) × (Nat → Int32) × (Nat → Int32) × Int32 × Int32 × Int32 × Int32 × (Nat → Int32) × (Nat → Int32) × Int32))) (B : Option ((Int32 × Int32 × Int32 × Int32 × (Nat → Int32) × (Nat → Int32) × (Nat → Int32) × (Nat → Int32) × (Nat → Int32)) ⊕ (Int32 × Int32 × Int32 × Int32 × (Nat → Int32) × (Nat → Int32) × (Nat → Int32) × (Nat → Int32) × (Nat → Int32)))) : Prop :=
  (∃ x y o' r' w' z' at' wn' wi' wc' b, A = some (.inl (0, o', r', w', z', x, y, at', wn', wi', wc')) ∧ (B = some (.inl b) ∨ B = some (.inr b)) ∧ b.1 = 0 ∧ b.2.1 = x ∧ b.2.2.1 = y) ∨
  (∃ q o' r' w' z' fi' fr' wn' wi' wc' b, A = some (.inr (o', r', w', z', fi', fr', nI (q + 1), wn', wi', wc')) ∧ B = some (.inl b) ∧ b.1 = 0 ∧ b.2.1 = nI q ∧ b.2.2.1 = 4) ∨
  (∃ n p' o' r' w' fi' fr' at' wn' wi' wc' sp' rs' ow' rk' st' ta' ln', A = some (.inl (1, o', r', w', nI n, fi', fr', at', wn', wi', wc')) ∧ B = some (.inr (1, sp', rs', nI n, ow', rk', st', ta', ln')) ∧ n ≤ 12 ∧ p' ≤ L ∧ PSt n p' o' r' w' wn' wi' wc' ow' rk' st' ta' ln')
theorem p_places {N L : Nat} {c : Nat → Nat} {cs ts : Nat → Int32} (hN : 200 ≤ N) (T : TXT c cs ts L) : ∀ d P p m m' o r w wn wi wc fi fr rs ow rk st ta ln, P + d + 1 = 12 → p ≤ L → d + 1 < m → d + 1 < m' → PSt P p o r w wn wi wc ow rk st ta ln →
    PLJ L (f_X2_lookAtPlaces_L2 N cs (nI L) m (nI P) o r w (nI P) fi fr (nI p) wn wi wc) (Option.bind (f_X4_readsPlace N ts (nI L) (nI p) rs (nI P) ow rk st ta ln) (fun q6 => f_X4_isRight_L43 N ts (nI L) m' q6.1 q6.2.1 q6.2.2.1 q6.2.2.2.1 q6.2.2.2.2.1 q6.2.2.2.2.2.1 q6.2.2.2.2.2.2.1 q6.2.2.2.2.2.2.2.1 q6.2.2.2.2.2.2.2.2)) := by
  have hL := T.1
  intro d
  induction d with
  | zero =>
    intro P p m m' o r w wn wi wc fi fr rs ow rk st ta ln hd hp hm hm' h
    obtain ⟨m, rfl⟩ : ∃ z, m = z + 2 := ⟨m - 2, by omega⟩
    obtain ⟨m', rfl⟩ : ∃ z, m' = z + 1 := ⟨m' - 1, by omega⟩
    have h12 : ¬ (12 : Int32) ≤ nI P := nI_ge (b := 12) (by omega) (by omega)
    rcases p_place (fi := fi) (fr := fr) (rs := rs) hN T (show P < 12 by omega) hp h with ⟨x, y, o', r', w', z', at', wn', wi', wc', pl', ow', rk', st', ta', ln', g1, g2⟩ | ⟨p', o', r', w', fi', fr', wn', wi', wc', rs', ow', rk', st', ta', ln', g1, g2, g3, g4, g5⟩
    · refine Or.inl ⟨x, y, o', r', w', z', at', wn', wi', wc', (0, x, y, pl', ow', rk', st', ta', ln'), ?_, Or.inr ?_, rfl, rfl, rfl⟩
      · rw [f_X2_lookAtPlaces_L2]
        simp only [if_neg h12, g1, Option.bind_some, if_true]
      · rw [g2]
        simp only [f_X4_isRight_L43, Option.bind_some, if_true]
    · have h59 : f_X4_isAt N 59 59 ts (nI L) (nI p') = some (if c p' = 59 then 1 else 0) := t_isAt1 (a := 59) T (by omega) (by omega) (by omega)
      have hch := t_char (N := N) (p := p') T (by omega)
      by_cases el : p' < L
      · have l1 : nI p' < nI L := nI_lt el (by omega)
        have l2 : ¬ nI L ≤ nI p' := nI_ge el (by omega)
        by_cases e59 : c p' = 59
        · rw [if_pos e59] at h59
          have e59' : nI (c p') = 59 := by rw [e59]; rfl
          have P12 : nI (P + 1) = 12 := by rw [show P + 1 = 12 by omega]; rfl
          have hge : (12 : Int32) ≤ nI (P + 1) := by rw [P12]; decide
          refine Or.inr (Or.inl ⟨p', o', r', w', nI (P + 1), fi', fr', wn', wi', wc', (0, nI p', 4, nI (P + 1), ow', rk', st', ta', ln'), ?_, ?_, rfl, rfl, rfl⟩)
          · rw [f_X2_lookAtPlaces_L2]
            simp only [if_neg h12, g1, Option.bind_some, i10, if_pos l1, hch, if_pos e59', nI_1]
            rw [f_X2_lookAtPlaces_L2, if_pos hge]
          · rw [g2]
            simp only [f_X4_isRight_L43, Option.bind_some, i10, if_neg l2, h59, if_pos P12, f_X4_fails, chk_t z0]
        · rw [if_neg e59] at h59
          have e59' : ¬ nI (c p') = 59 := nI_ne (b := 59) (by have := T.le (p := p'); omega) (by omega) e59
          refine Or.inl ⟨nI p', 1, o', r', w', nI (P + 1), nI p', wn', wi', wc', (0, nI p', 1, nI (P + 1), ow', rk', st', ta', ln'), ?_, Or.inl ?_, rfl, rfl, rfl⟩
          · rw [f_X2_lookAtPlaces_L2]
            simp only [if_neg h12, g1, Option.bind_some, i10, if_pos l1, hch, if_neg e59', bl3, chk_t z0]
          · rw [g2]
            simp only [f_X4_isRight_L43, Option.bind_some, i10, if_neg l2, h59, if_true, f_X4_fails, chk_t z0]
      · have l1 : ¬ nI p' < nI L := nI_nlt (by omega) (by omega)
        have l2 : nI L ≤ nI p' := (nI_leI (by omega) (by omega)).mpr (by omega)
        refine Or.inr (Or.inr ⟨P + 1, p', o', r', w', fi', fr', nI p', wn', wi', wc', nI p', rs', ow', rk', st', ta', ln', ?_, ?_, by omega, g3, g5⟩)
        · rw [f_X2_lookAtPlaces_L2]
          simp only [if_neg h12, g1, Option.bind_some, i10, if_neg l1]
        · rw [g2]
          simp only [f_X4_isRight_L43, Option.bind_some, i10, if_pos l2]
  | succ d ih =>
    intro P p m m' o r w wn wi wc fi fr rs ow rk st ta ln hd hp hm hm' h
    obtain ⟨m, rfl⟩ : ∃ z, m = z + 1 := ⟨m - 1, by omega⟩
    obtain ⟨m', rfl⟩ : ∃ z, m' = z + 1 := ⟨m' - 1, by omega⟩
    have h12 : ¬ (12 : Int32) ≤ nI P := nI_ge (b := 12) (by omega) (by omega)
    rcases p_place (fi := fi) (fr := fr) (rs := rs) hN T (show P < 12 by omega) hp h with ⟨x, y, o', r', w', z', at', wn', wi', wc', pl', ow', rk', st', ta', ln', g1, g2⟩ | ⟨p', o', r', w', fi', fr', wn', wi', wc', rs', ow', rk', st', ta', ln', g1, g2, g3, g4, g5⟩
    · refine Or.inl ⟨x, y, o', r', w', z', at', wn', wi', wc', (0, x, y, pl', ow', rk', st', ta', ln'), ?_, Or.inr ?_, rfl, rfl, rfl⟩
      · rw [f_X2_lookAtPlaces_L2]
        simp only [if_neg h12, g1, Option.bind_some, if_true]
      · rw [g2]
        simp only [f_X4_isRight_L43, Option.bind_some, if_true]
    · have h59 : f_X4_isAt N 59 59 ts (nI L) (nI p') = some (if c p' = 59 then 1 else 0) := t_isAt1 (a := 59) T (by omega) (by omega) (by omega)
      have hch := t_char (N := N) (p := p') T (by omega)
      by_cases el : p' < L
      · have l1 : nI p' < nI L := nI_lt el (by omega)
        have l2 : ¬ nI L ≤ nI p' := nI_ge el (by omega)
        by_cases e59 : c p' = 59
        · rw [if_pos e59] at h59
          have e59' : nI (c p') = 59 := by rw [e59]; rfl
          have P12 : ¬ nI (P + 1) = 12 := nI_ne (b := 12) (by omega) (by omega) (by omega)
          have key := ih (P + 1) (p' + 1) m m' o' r' w' wn' wi' wc' fi' fr' rs' ow' rk' st' ta' ln' (by omega) (by omega) (by omega) (by omega) (PSt_mono g5 (by omega))
          rw [f_X2_lookAtPlaces_L2, g2]
          simp only [if_neg h12, g1, Option.bind_some, i10, if_pos l1, hch, if_pos e59', nI_1, f_X4_isRight_L43, if_neg l2, h59, if_neg P12]
          exact key
        · rw [if_neg e59] at h59
          have e59' : ¬ nI (c p') = 59 := nI_ne (b := 59) (by have := T.le (p := p'); omega) (by omega) e59
          refine Or.inl ⟨nI p', 1, o', r', w', nI (P + 1), nI p', wn', wi', wc', (0, nI p', 1, nI (P + 1), ow', rk', st', ta', ln'), ?_, Or.inl ?_, rfl, rfl, rfl⟩
          · rw [f_X2_lookAtPlaces_L2]
            simp only [if_neg h12, g1, Option.bind_some, i10, if_pos l1, hch, if_neg e59', bl3, chk_t z0]
          · rw [g2]
            simp only [f_X4_isRight_L43, Option.bind_some, i10, if_neg l2, h59, if_true, f_X4_fails, chk_t z0]
      · have l1 : ¬ nI p' < nI L := nI_nlt (by omega) (by omega)
        have l2 : nI L ≤ nI p' := (nI_leI (by omega) (by omega)).mpr (by omega)
        refine Or.inr (Or.inr ⟨P + 1, p', o', r', w', fi', fr', nI p', wn', wi', wc', nI p', rs', ow', rk', st', ta', ln', ?_, ?_, by omega, g3, g5⟩)
        · rw [f_X2_lookAtPlaces_L2]
          simp only [if_neg h12, g1, Option.bind_some, i10, if_neg l1]
        · rw [g2]
          simp only [f_X4_isRight_L43, Option.bind_some, i10, if_pos l2]
theorem has_ge {N n v : Nat} (hv : v < 2 ^ 31) (h : n ≤ v) : f_X0_has N (nI v) (nI n) = some 0 := by
  unfold f_X0_has
  rw [if_neg (nI_pos (by omega)), if_pos ((nI_leI (by omega) (by omega)).mpr h)]
theorem p_there {N n K p : Nat} {num ix : Nat → Nat} {wn wi ta ln : Nat → Int32} {fi fr sp rs : Int32} (hN : 200 ≤ N) (hn : n ≤ 12) (hp : p ≤ 80) (h : WV K n K p num ix wn wi ta ln) :
    (∃ x, f_X2_lookForPlacesOfWays N (nI n) fi fr wn wi (nI K) = some (0, x, 5) ∧ f_X4_areThere N sp rs (nI n) ta = some (0, x, 5)) ∨
    ((∀ i, i < K → num i < n) ∧ f_X2_lookForPlacesOfWays N (nI n) fi fr wn wi (nI K) = some (1, fi, fr) ∧ ∃ x, f_X4_areThere N sp rs (nI n) ta = some (1, x, rs)) := by
  obtain ⟨w1, w2, w3, w4, w5⟩ := h
  obtain ⟨y, e1, e2⟩ := for_inv (fun m j (_ : Unit) => f_X2_lookForPlacesOfWays_L2 N (nI n) wn wi (nI K) m j fi fr) K (fun k _ => ∀ i, i < k → num i < n) (fun y => (∃ i, i < K ∧ n ≤ num i ∧ (∀ j, j < i → num j < n) ∧ y = .inl (0, nI (ix i), 5)) ∨ ((∀ i, i < K → num i < n) ∧ y = .inr (fi, fr)))
    (fun m t h => ⟨.inr (fi, fr), by simp only [f_X2_lookForPlacesOfWays_L2]; rw [if_pos (Int32.le_refl _)], Or.inr ⟨h, rfl⟩⟩)
    (fun m k t hk h => by
      have k1 : ¬ nI K ≤ nI k := nI_ge hk (by omega)
      have k2 := gi_ok (show k < 80 by omega) (by omega)
      obtain ⟨a1, a2, a3, a4⟩ := w2 k hk
      by_cases e : num k < n
      · refine Or.inr ⟨(), by simp only [f_X2_lookForPlacesOfWays_L2, if_neg k1, chk_t k2, nI_clamp (show k < 2 ^ 31 by omega), a1, has_ok hn e, Option.bind_some, i10, nI_1], fun i hi => ?_⟩
        by_cases ei : i = k
        · rw [ei]; exact e
        · exact h i (by omega)
      · refine Or.inl ⟨.inl (0, nI (ix k), 5), by simp only [f_X2_lookForPlacesOfWays_L2, if_neg k1, chk_t k2, nI_clamp (show k < 2 ^ 31 by omega), a1, a3, has_ge (show num k < 2 ^ 31 by omega) (show n ≤ num k by omega), Option.bind_some, if_true, bl3, chk_t z0], Or.inl ⟨k, hk, by omega, h, rfl⟩⟩)
    0 N () (by omega) (by omega) (fun i hi => by omega)
  have e1 : f_X2_lookForPlacesOfWays_L2 N (nI n) wn wi (nI K) N 0 fi fr = some y := e1
  obtain ⟨z, g1, m, gm, gz, g2, g3⟩ := for_inv (fun m j (f : Int32) => f_X4_areThere_L8 N ta m f j) 100 (fun v f => n ≤ v ∧ ∃ m, m ≤ 80 ∧ f = nI m ∧ (∀ u t, n ≤ u → u < v → t < 100 → ta u = nI t → m ≤ t) ∧ (m = 80 ∨ ∃ u, n ≤ u ∧ u < v ∧ ta u = nI m)) (fun f => ∃ m, m ≤ 80 ∧ f = nI m ∧ (∀ u t, n ≤ u → u < 100 → t < 100 → ta u = nI t → m ≤ t) ∧ (m = 80 ∨ ∃ u, n ≤ u ∧ u < 100 ∧ ta u = nI m))
    (fun m t h => ⟨t, by simp only [f_X4_areThere_L8]; rw [if_pos (by decide)], h.2⟩)
    (fun mm k t hk h => by
      obtain ⟨hnk, m, b1, rfl, b2, b3⟩ := h
      have k1 : ¬ (100 : Int32) ≤ nI k := nI_ge (b := 100) hk (by omega)
      have k2 := gi_ok (show k < 100 by omega) (by omega)
      have b3' : m = 80 ∨ ∃ u, n ≤ u ∧ u < k + 1 ∧ ta u = nI m := by
        rcases b3 with b3 | ⟨u, u1, u2, u3⟩
        · exact Or.inl b3
        · exact Or.inr ⟨u, u1, by omega, u3⟩
      rcases w4 k hk with ⟨c1, c2⟩ | ⟨i, c1, c2, c3, c4⟩
      · refine Or.inr ⟨nI m, by simp only [f_X4_areThere_L8, if_neg k1, chk_t k2, nI_clamp (show k < 2 ^ 31 by omega), c1, if_pos (show (-1 : Int32) < 0 by decide), Option.bind_some, nI_1], by omega, m, b1, rfl, fun u t h1 h2 h3 h4 => ?_, b3'⟩
        by_cases eu : u = k
        · rw [eu, c1] at h4
          have : (-1 : Int32).toInt = -1 := by decide
          have h5 := congrArg Int32.toInt h4
          rw [nI_toInt (by omega), this] at h5
          omega
        · exact b2 u t h1 (by omega) h3 h4
      · have hix := (w2 i c1).2.2.2
        have hneg : ¬ nI (ix i) < 0 := nI_pos (by omega)
        by_cases el : m ≤ ix i
        · refine Or.inr ⟨nI m, by simp only [f_X4_areThere_L8, if_neg k1, chk_t k2, nI_clamp (show k < 2 ^ 31 by omega), c3, if_neg hneg, if_pos ((nI_leI (by omega) (by omega)).mpr el), Option.bind_some, nI_1], by omega, m, b1, rfl, fun u t h1 h2 h3 h4 => ?_, b3'⟩
          by_cases eu : u = k
          · rw [eu, c3] at h4
            have := (nI_eq (by omega) (by omega)).mp h4
            omega
          · exact b2 u t h1 (by omega) h3 h4
        · refine Or.inr ⟨nI (ix i), by simp only [f_X4_areThere_L8, if_neg k1, chk_t k2, nI_clamp (show k < 2 ^ 31 by omega), c3, if_neg hneg, if_neg (fun h => el ((nI_leI (by omega) (by omega)).mp h)), Option.bind_some, nI_1], by omega, ix i, by omega, rfl, fun u t h1 h2 h3 h4 => ?_, Or.inr ⟨k, hnk, by omega, c3⟩⟩
          by_cases eu : u = k
          · rw [eu, c3] at h4
            have := (nI_eq (by omega) (by omega)).mp h4
            omega
          · have := b2 u t h1 (by omega) h3 h4
            omega)
    n N (nI 80) (by omega) (by omega) ⟨Nat.le_refl _, 80, by omega, rfl, fun u t h1 h2 => by omega, Or.inl rfl⟩
  have g1 : f_X4_areThere_L8 N ta N 80 (nI n) = some z := g1
  subst gz
  rcases e2 with ⟨i, i1, i2, i3, e2⟩ | ⟨e2, e3⟩
  · have hi := w2 i i1
    have hix := hi.2.2.2
    have hm : m = ix i := by
      rcases w4 (num i) hi.2.1 with ⟨c1, c2⟩ | ⟨j, c1, c2, c3, c4⟩
      · exact absurd rfl (c2 i i1)
      · have hij : j = i := by
          rcases Nat.lt_trichotomy j i with hlt | heq | hgt
          · have := i3 j hlt; omega
          · exact heq
          · exact absurd rfl (c4 i hgt)
        subst hij
        have hle := g2 (num j) (ix j) i2 hi.2.1 (by omega) c3
        rcases g3 with g3 | ⟨u, u1, u2, u3⟩
        · omega
        · rcases w4 u u2 with ⟨d1, d2⟩ | ⟨l, d1, d2, d3, d4⟩
          · rw [d1] at u3
            have h1 : (-1 : Int32).toInt = -1 := by decide
            have h5 := congrArg Int32.toInt u3
            rw [nI_toInt (by omega), h1] at h5
            omega
          · rw [d3] at u3
            have hl := (w2 l d1).2.2.2
            have hlm := (nI_eq (by omega) (by omega)).mp u3
            have hjl : j ≤ l := by
              apply Classical.byContradiction
              intro hh
              have := i3 l (by omega)
              omega
            rcases Nat.eq_or_lt_of_le hjl with he | hlt
            · rw [← hlm, he]
            · have := w3 j l hlt d1; omega
    have hm80 : ¬ nI m = 80 := nI_ne (b := 80) (by omega) (by omega) (by omega)
    refine Or.inl ⟨nI m, ?_, ?_⟩
    · rw [hm]
      simp only [f_X2_lookForPlacesOfWays, e1, e2, Option.bind_some, sm]
    · simp only [f_X4_areThere, g1, Option.bind_some, if_neg hm80, f_X4_fails, if_true, sm]
  · have hm : m = 80 := by
      rcases g3 with g3 | ⟨u, u1, u2, u3⟩
      · exact g3
      · rcases w4 u u2 with ⟨d1, d2⟩ | ⟨l, d1, d2, d3, d4⟩
        · rw [d1] at u3
          have h1 : (-1 : Int32).toInt = -1 := by decide
          have h5 := congrArg Int32.toInt u3
          rw [nI_toInt (by omega), h1] at h5
          omega
        · have := e2 l d1; omega
    have hm80 : nI m = 80 := by rw [hm]; rfl
    refine Or.inr ⟨e2, ?_, nI m, ?_⟩
    · simp only [f_X2_lookForPlacesOfWays, e1, e3, Option.bind_some, sm]
    · simp only [f_X4_areThere, g1, Option.bind_some, if_pos hm80, sm]
theorem p_r12 {N : Nat} {ta ln : Nat → Int32} (hN : 200 ≤ N) : ∃ ta' ln', f_X4_isRight_L12 N N 0 ta ln = some (ta', ln') ∧ ∀ v, v < 100 → ta' v = -1 ∧ ln' v = 0 := by
  obtain ⟨y, e1, e2⟩ := for_inv (fun m j (t : (Nat → Int32) × (Nat → Int32)) => f_X4_isRight_L12 N m j t.1 t.2) 100 (fun k t => ∀ v, v < k → t.1 v = -1 ∧ t.2 v = 0) (fun t => ∀ v, v < 100 → t.1 v = -1 ∧ t.2 v = 0)
    (fun m t h => ⟨t, by simp only [f_X4_isRight_L12]; rw [if_pos (by decide)], h⟩)
    (fun m k t hk h => Or.inr ⟨(upd t.1 k (-1), upd t.2 k 0), by
      have k1 : ¬ (100 : Int32) ≤ nI k := nI_ge (b := 100) hk (by omega)
      have k2 := gi_ok (show k < 100 by omega) (by omega)
      simp only [f_X4_isRight_L12, if_neg k1, chk_t k2, nI_clamp (show k < 2 ^ 31 by omega), nI_1], fun v hv => by
      show upd t.1 k (-1) v = -1 ∧ upd t.2 k 0 v = 0
      by_cases e : v = k
      · rw [e, upd_s, upd_s]; exact ⟨rfl, rfl⟩
      · rw [upd_n e, upd_n e]; exact h v (by omega)⟩)
    0 N (ta, ln) (by omega) (by omega) (fun v hv => by omega)
  exact ⟨y.1, y.2, e1, e2⟩
/-- the two readers agree -/
theorem p_isField {N L : Nat} {c : Nat → Nat} {cs ts o r w wn wi ow rk st ta ln : Nat → Int32} {z fi fr at' wc sp rs pl : Int32} (hN : 200 ≤ N) (T : TXT c cs ts L) :
    (∃ x y o' r' w' z' at'' wn' wi' wc' b, f_X2_isField N cs (nI L) o r w z fi fr at' wn wi wc = some (0, o', r', w', z', x, y, at'', wn', wi', wc') ∧ f_X4_isRight N ts (nI L) sp rs pl ow rk st ta ln = some b ∧ b.1 = 0 ∧ b.2.1 = x ∧ b.2.2.1 = y) ∨
    (∃ n o' r' w' fi' fr' at'' wn' wi' wc' sp' rs' ow' rk' st' ta' ln', f_X2_isField N cs (nI L) o r w z fi fr at' wn wi wc = some (1, o', r', w', nI n, fi', fr', at'', wn', wi', wc') ∧ f_X4_isRight N ts (nI L) sp rs pl ow rk st ta ln = some (1, sp', rs', nI n, ow', rk', st', ta', ln') ∧ VF n o' r' w' ∧ ∀ v, v < n → ow' v = o' v ∧ rk' v = r' v ∧ st' v = w' v) := by
  have hL := T.1
  obtain ⟨ta1, ln1, h12, h12'⟩ := p_r12 (ta := ta) (ln := ln) hN
  have hst : PSt 0 0 o r w wn wi 0 ow rk st ta1 ln1 := ⟨fun v hv => by omega, 0, fun _ => 0, fun _ => 0, rfl, ⟨Nat.le_refl _, fun i hi => by omega, fun i j h1 h2 => by omega, fun v hv => Or.inl ⟨(h12' v hv).1, fun i hi => by omega⟩, fun v hv => ⟨0, by omega, (h12' v hv).2, fun h => by omega, fun ⟨i, i1, i2, _⟩ => by omega⟩⟩, fun v hv => by omega⟩
  have key := p_places hN T 11 0 0 N N o r w wn wi 0 fi fr rs ow rk st ta1 ln1 (by omega) (by omega) (by omega) (by omega) hst
  generalize hA : f_X2_lookAtPlaces_L2 N cs (nI L) N (nI 0) o r w (nI 0) fi fr (nI 0) wn wi 0 = A at key
  have hA : f_X2_lookAtPlaces_L2 N cs (nI L) N 0 o r w 0 fi fr 0 wn wi 0 = A := hA
  obtain ⟨q6, hq6⟩ : ∃ q6, f_X4_readsPlace N ts (nI L) (nI 0) rs (nI 0) ow rk st ta1 ln1 = some q6 := by
    cases hq : f_X4_readsPlace N ts (nI L) (nI 0) rs (nI 0) ow rk st ta1 ln1 with
    | none =>
      rw [hq] at key
      rcases key with ⟨x, y, o', r', w', z', at', wn', wi', wc', b, k1, k2 | k2, k3⟩ | ⟨q, o', r', w', z', fi', fr', wn', wi', wc', b, k1, k2, k3⟩ | ⟨n, p', o', r', w', fi', fr', at', wn', wi', wc', sp', rs', ow', rk', st', ta', ln', k1, k2, k3⟩ <;> exact absurd k2 (by simp)
    | some q => exact ⟨q, rfl⟩
  rw [hq6] at key
  have hq6 : f_X4_readsPlace N ts (nI L) 0 rs 0 ow rk st ta1 ln1 = some q6 := hq6
  simp only [Option.bind_some] at key
  rcases key with ⟨x, y, o', r', w', z', at', wn', wi', wc', b, k1, k2, k3, k4, k5⟩ | ⟨q, o', r', w', z', fi', fr', wn', wi', wc', b, k1, k2, k3, k4, k5⟩ | ⟨n, p', o', r', w', fi', fr', at', wn', wi', wc', sp', rs', ow', rk', st', ta', ln', k1, k2, k3, k4, k5⟩
  · subst k1
    refine Or.inl ⟨x, y, o', r', w', z', at', wn', wi', wc', ?_⟩
    have hx : ∀ b, b = f_X2_isField N cs (nI L) o r w z fi fr at' wn wi wc → True := fun _ _ => trivial
    rcases k2 with k2 | k2
    · refine ⟨b, ?_, ?_, k3, k4, k5⟩
      · simp only [f_X2_isField, f_X2_lookAtPlaces, hA, Option.bind_some, sm, if_true]
      · simp only [f_X4_isRight, h12, Option.bind_some, hq6, k2, sm]
    · refine ⟨(0, b.2.1, b.2.2.1, b.2.2.2.1, b.2.2.2.2.1, b.2.2.2.2.2.1, b.2.2.2.2.2.2.1, b.2.2.2.2.2.2.2.1, b.2.2.2.2.2.2.2.2), ?_, ?_, rfl, k4, k5⟩
      · simp only [f_X2_isField, f_X2_lookAtPlaces, hA, Option.bind_some, sm, if_true]
      · simp only [f_X4_isRight, h12, Option.bind_some, hq6, k2, sm, if_pos k3]
  · subst k1
    refine Or.inl ⟨nI q, 4, o', r', w', z', nI (q + 1), wn', wi', wc', b, ?_, ?_, k3, k4, k5⟩
    · simp only [f_X2_isField, f_X2_lookAtPlaces, hA, Option.bind_some, sm, bl3, chk_t z0, nI_pred, if_true]
    · simp only [f_X4_isRight, h12, Option.bind_some, hq6, k2, sm]
  · subst k1
    obtain ⟨g0, K, num, ix, hK, g1, g2⟩ := k5
    subst hK
    have hX : f_X2_lookAtPlaces N cs (nI L) o r w 0 fi fr 0 wn wi 0 = some (1, o', r', w', nI n, fi', fr', at', wn', wi', nI K) := by
      simp only [f_X2_lookAtPlaces, hA, Option.bind_some, sm]
    rcases p_there (fi := fi') (fr := fr') (sp := sp') (rs := rs') hN k3 (by omega) g1 with ⟨x, t1, t2⟩ | ⟨t0, t1, x, t2⟩
    · refine Or.inl ⟨x, 5, o', r', w', nI n, at', wn', wi', nI K, (0, x, 5, nI n, ow', rk', st', ta', ln'), ?_, ?_, rfl, rfl, rfl⟩
      · simp only [f_X2_isField, hX, Option.bind_some, i10, t1, if_true]
      · simp only [f_X4_isRight, h12, Option.bind_some, hq6, k2, sm, i10, t2, if_true]
    · refine Or.inr ⟨n, o', r', w', fi', fr', at', wn', wi', nI K, x, rs', ow', rk', st', ta', ln', ?_, ?_, ⟨k3, fun v hv => ?_⟩, fun v hv => ⟨(g0 v hv).2.2.1, (g0 v hv).2.2.2, (g2 v hv).1⟩⟩
      · simp only [f_X2_isField, hX, Option.bind_some, i10, t1]
      · simp only [f_X4_isRight, h12, Option.bind_some, hq6, k2, sm, i10, t2]
      · obtain ⟨a1, ⟨q, a2, a3⟩, -, -⟩ := g0 v hv
        refine ⟨a1, rkN_nI a3 a2, fun u h1 h2 => ?_⟩
        apply bf
        intro hb
        obtain ⟨-, i, i1, i2⟩ := (g2 v hv).2 u hb
        have := t0 i i1
        omega
