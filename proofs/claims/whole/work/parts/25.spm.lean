/-! the reference: progress measures -/
def FE (n : Nat) (o r w s : Nat → Int32) : Prop := s 0 = nI n ∧ ∀ k, k < n → s (1 + k) = o k ∧ s (13 + k) = r k ∧ s (25 + k) = w k
theorem m1 (k : Nat) : (1 : Int32) + nI k = nI (1 + k) := nI_add 1 k
theorem m13 (k : Nat) : (13 : Int32) + nI k = nI (13 + k) := nI_add 13 k
theorem m25 (k : Nat) : (25 : Int32) + nI k = nI (25 + k) := nI_add 25 k
theorem g037 : gi 0 37 = true := by decide
theorem c0 : Int32.toNatClampNeg 0 = 0 := by decide
/-- the model's places: all that a walk over k asks -/
theorem idm {n k : Nat} {o r w s : Nat → Int32} (hF : FE n o r w s) (h : k < n) (hn : n ≤ 12) :
    gi (nI (1 + k)) 37 = true ∧ gi (nI (13 + k)) 37 = true ∧ gi (nI (25 + k)) 37 = true ∧ s (Int32.toNatClampNeg (nI (1 + k))) = o k ∧ s (Int32.toNatClampNeg (nI (13 + k))) = r k ∧ s (Int32.toNatClampNeg (nI (25 + k))) = w k := by
  obtain ⟨h1, h2, h3⟩ := hF.2 k h
  refine ⟨gi_ok (by omega) (by omega), gi_ok (by omega) (by omega), gi_ok (by omega) (by omega), ?_, ?_, ?_⟩
  · rw [nI_clamp (by omega), h1]
  · rw [nI_clamp (by omega), h2]
  · rw [nI_clamp (by omega), h3]
theorem p_withRank {N n q : Nat} {o r w s : Nat → Int32} (hN : 13 ≤ N) (V : VF n o r w) (hF : FE n o r w s) (hq : q < 6) : f_X4_withRank N (nI q) s = some (nI (cn (fun v => decide (rkN r v = q)) n)) := by
  obtain ⟨hn, hV⟩ := V
  obtain ⟨x, h1, h2⟩ := for_inv (fun m k a => f_X4_withRank_L4 N (nI q) s m a k) n (fun k (a : Int32) => a = nI (cn (fun v => decide (rkN r v = q)) k)) (fun a => a = nI (cn (fun v => decide (rkN r v = q)) n))
    (fun m a ha => ⟨a, by simp only [f_X4_withRank_L4, chk_t g037, c0, hF.1]; rw [if_pos (Int32.le_refl _)], ha⟩)
    (fun m k a hk ha => Or.inr (by
      obtain ⟨k1, k2, k3, k4⟩ := idx hk hn
      obtain ⟨-, g2, -, -, s2, -⟩ := idm hF hk hn
      subst ha
      have hrk : r k = nI q ↔ rkN r k = q := by
        rw [(hV k hk).2.1.1, nI_eq (by have := (hV k hk).2.1.2; omega) (by omega)]
      refine ⟨nI (cn (fun v => decide (rkN r v = q)) (k + 1)), ?_, rfl⟩
      simp only [f_X4_withRank_L4, chk_t g037, c0, hF.1, if_neg k1, m13, chk_t g2, s2, k4]
      by_cases e : rkN r k = q
      · rw [if_pos (hrk.mpr e), Option.bind_some]
        simp only [cn, e, decide_true, if_true, nI_1]
      · rw [if_neg (fun h => e (hrk.mp h)), Option.bind_some]
        simp [cn, e]))
    0 N (nI 0) (by omega) (by omega) rfl
  simp only [f_X4_withRank]
  have h1 : f_X4_withRank_L4 N (nI q) s N 0 0 = some x := h1
  rw [h1, h2]; rfl
/-- a measure: lost, or three digits -/
def Vm (M1 M3 M5 m : Nat) : Prop := m = 1000000 ∨ (m / 169 ≤ M5 ∧ m / 13 % 13 ≤ M3 ∧ m % 13 ≤ M1)
def ky (q : Nat) : Nat := if q < 2 then 1 else if q < 4 then 13 else 169
def Gm (q x m : Nat) : Prop := m / ky q ≤ x / ky q ∧ (q % 2 = 1 → m / ky q < x / ky q)
theorem cdec {m : Nat} (h : m < 2197) : nI m / 169 = nI (m / 169) ∧ (nI m / 13) - (nI m / 13) / 13 * 13 = nI (m / 13 % 13) ∧ nI m - nI m / 13 * 13 = nI (m % 13) := by
  have e1 : nI m / nI 13 = nI (m / 13) := pk_div (by omega) (by omega) (by omega)
  refine ⟨pk_div (d := 169) (by omega) (by omega) (by omega), ?_, pk_rem (d := 13) (by omega) (by omega) (by omega)⟩
  have e1' : nI m / 13 = nI (m / 13) := e1
  rw [e1']
  exact pk_rem (d := 13) (by omega) (by omega) (by omega)
theorem enc (a b c : Nat) : ((169 : Int32) * nI a + 13 * nI b) + nI c = nI (169 * a + 13 * b + c) := by
  have h1 : (169 : Int32) * nI a = nI (169 * a) := pk_mul 169 a
  have h2 : (13 : Int32) * nI b = nI (13 * b) := pk_mul 13 b
  rw [h1, h2, nI_add, nI_add]
theorem p_ahead {N q m M1 M3 M5 : Nat} (hq : q < 6) (h1 : M1 ≤ 12) (h3 : M3 ≤ 12) (h5 : M5 ≤ 12) (hm : Vm M1 M3 M5 m) :
    ∃ a, f_X4_ahead N (nI q) (nI m) (nI M1) (nI M3) (nI M5) = some (nI a) ∧ Vm M1 M3 M5 a ∧ ∀ x, Vm M1 M3 M5 x → (a ≤ x ↔ (x = 1000000 ∨ (m ≠ 1000000 ∧ Gm q x m))) := by
  by_cases e : m = 1000000
  · refine ⟨1000000, ?_, Or.inl rfl, fun x hx => ?_⟩
    · unfold f_X4_ahead
      rw [if_pos (by rw [e]; rfl)]; rfl
    · have : x ≤ 1000000 := by rcases hx with h | h <;> omega
      constructor
      · intro h; exact Or.inl (by omega)
      · rintro (h | h)
        · omega
        · exact absurd e h.1
  have hm' : m / 169 ≤ M5 ∧ m / 13 % 13 ≤ M3 ∧ m % 13 ≤ M1 := by
    rcases hm with h | h
    · exact absurd h e
    · exact h
  have hmb : m < 2197 := by omega
  obtain ⟨d5, d3, d1⟩ := cdec hmb
  have hne : ¬ nI m = 1000000 := nI_ne (b := 1000000) (by omega) (by omega) e
  have le (a b : Nat) (ha : a < 2 ^ 31) (hb : b < 2 ^ 31) : nI a ≤ nI b ↔ a ≤ b := nI_leI ha hb
  have hx' : ∀ x, Vm M1 M3 M5 x → x = 1000000 ∨ (x < 2197 ∧ x / 169 ≤ M5 ∧ x / 13 % 13 ≤ M3 ∧ x % 13 ≤ M1) := by
    intro x hx
    rcases hx with h | h
    · exact Or.inl h
    · exact Or.inr ⟨by omega, h⟩
  have z0 : (0 : Int32) = nI 0 := rfl
  rcases (show q = 0 ∨ q = 1 ∨ q = 2 ∨ q = 3 ∨ q = 4 ∨ q = 5 by omega) with rfl | rfl | rfl | rfl | rfl | rfl
  · refine ⟨m, ?_, hm, fun x hx => ?_⟩
    · simp only [f_X4_ahead, if_neg hne, if_neg (show ¬ (4 : Int32) ≤ nI 0 by decide), if_neg (show ¬ (2 : Int32) ≤ nI 0 by decide), if_neg (show ¬ nI 0 = 1 by decide), Option.bind_some, d5, d3, d1, show nI 0 - nI 0 / 2 * 2 = nI 0 by decide]
      rw [nI_add, if_pos ((le _ _ (by omega) (by omega)).mpr (by omega)), enc]
      congr 2; omega
    · unfold Gm ky
      rcases hx' x hx with h | h <;> simp <;> omega
  · simp only [f_X4_ahead, if_neg hne, if_neg (show ¬ (4 : Int32) ≤ nI 1 by decide), if_neg (show ¬ (2 : Int32) ≤ nI 1 by decide), if_pos (show nI 1 = 1 by decide), Option.bind_some, d5, d3, d1, show nI 1 - nI 1 / 2 * 2 = 1 by decide]
    by_cases a1 : M1 ≤ m % 13
    · rw [if_pos ((le _ _ (by omega) (by omega)).mpr a1)]
      simp only [Option.bind_some, if_true]
      by_cases a3 : M3 ≤ m / 13 % 13
      · rw [if_pos ((le _ _ (by omega) (by omega)).mpr a3)]
        simp only [Option.bind_some, nI_1]
        by_cases a5 : m / 169 + 1 ≤ M5
        · rw [if_pos ((le _ _ (by omega) (by omega)).mpr a5), z0, enc]
          refine ⟨_, rfl, Or.inr (by omega), fun x hx => ?_⟩
          unfold Gm ky
          rcases hx' x hx with h | h <;> simp <;> omega
        · rw [if_neg (fun h => a5 ((le _ _ (by omega) (by omega)).mp h))]
          refine ⟨1000000, rfl, Or.inl rfl, fun x hx => ?_⟩
          unfold Gm ky
          rcases hx' x hx with h | h <;> simp <;> omega
      · rw [if_neg (fun h => a3 ((le _ _ (by omega) (by omega)).mp h))]
        simp only [Option.bind_some, nI_1, z0, nI_add]
        rw [if_pos ((le _ _ (by omega) (by omega)).mpr (by omega)), enc]
        refine ⟨_, rfl, Or.inr (by omega), fun x hx => ?_⟩
        unfold Gm ky
        rcases hx' x hx with h | h <;> simp <;> omega
    · rw [if_neg (fun h => a1 ((le _ _ (by omega) (by omega)).mp h))]
      simp only [Option.bind_some, nI_1, if_neg (show ¬ nI 0 = 1 by decide), z0, nI_add]
      rw [if_pos ((le _ _ (by omega) (by omega)).mpr (by omega)), enc]
      refine ⟨_, rfl, Or.inr (by omega), fun x hx => ?_⟩
      unfold Gm ky
      rcases hx' x hx with h | h <;> simp <;> omega
  · simp only [f_X4_ahead, if_neg hne, if_neg (show ¬ (4 : Int32) ≤ nI 2 by decide), if_pos (show (2 : Int32) ≤ nI 2 by decide), if_neg (show ¬ nI 2 = 1 by decide), Option.bind_some, d5, d3, d1, show nI 2 - nI 2 / 2 * 2 = 0 by decide, if_neg (show ¬ nI 0 = 1 by decide), z0, nI_add]
    rw [if_pos ((le _ _ (by omega) (by omega)).mpr (by omega)), enc]
    refine ⟨_, rfl, Or.inr (by omega), fun x hx => ?_⟩
    unfold Gm ky
    rcases hx' x hx with h | h <;> simp <;> omega
  · simp only [f_X4_ahead, if_neg hne, if_neg (show ¬ (4 : Int32) ≤ nI 3 by decide), if_pos (show (2 : Int32) ≤ nI 3 by decide), if_neg (show ¬ nI 3 = 1 by decide), Option.bind_some, d5, d3, d1, show nI 3 - nI 3 / 2 * 2 = 1 by decide, if_true]
    by_cases a3 : M3 ≤ m / 13 % 13
    · rw [if_pos ((le _ _ (by omega) (by omega)).mpr a3)]
      simp only [Option.bind_some, nI_1]
      by_cases a5 : m / 169 + 1 ≤ M5
      · rw [if_pos ((le _ _ (by omega) (by omega)).mpr a5), z0, enc]
        refine ⟨_, rfl, Or.inr (by omega), fun x hx => ?_⟩
        unfold Gm ky
        rcases hx' x hx with h | h <;> simp <;> omega
      · rw [if_neg (fun h => a5 ((le _ _ (by omega) (by omega)).mp h))]
        refine ⟨1000000, rfl, Or.inl rfl, fun x hx => ?_⟩
        unfold Gm ky
        rcases hx' x hx with h | h <;> simp <;> omega
    · rw [if_neg (fun h => a3 ((le _ _ (by omega) (by omega)).mp h))]
      simp only [Option.bind_some, nI_1, z0, nI_add]
      rw [if_pos ((le _ _ (by omega) (by omega)).mpr (by omega)), enc]
      refine ⟨_, rfl, Or.inr (by omega), fun x hx => ?_⟩
      unfold Gm ky
      rcases hx' x hx with h | h <;> simp <;> omega
  · simp only [f_X4_ahead, if_neg hne, if_pos (show (4 : Int32) ≤ nI 4 by decide), if_pos (show (2 : Int32) ≤ nI 4 by decide), if_neg (show ¬ nI 4 = 1 by decide), Option.bind_some, d5, d3, d1, show nI 4 - nI 4 / 2 * 2 = 0 by decide, z0, nI_add]
    rw [if_pos ((le _ _ (by omega) (by omega)).mpr (by omega)), enc]
    refine ⟨_, rfl, Or.inr (by omega), fun x hx => ?_⟩
    unfold Gm ky
    rcases hx' x hx with h | h <;> simp <;> omega
  · simp only [f_X4_ahead, if_neg hne, if_pos (show (4 : Int32) ≤ nI 5 by decide), if_pos (show (2 : Int32) ≤ nI 5 by decide), if_neg (show ¬ nI 5 = 1 by decide), Option.bind_some, d5, d3, d1, show nI 5 - nI 5 / 2 * 2 = nI 1 by decide, z0, nI_add]
    by_cases a5 : m / 169 + 1 ≤ M5
    · rw [if_pos ((le _ _ (by omega) (by omega)).mpr a5), enc]
      refine ⟨_, rfl, Or.inr (by omega), fun x hx => ?_⟩
      unfold Gm ky
      rcases hx' x hx with h | h <;> simp <;> omega
    · rw [if_neg (fun h => a5 ((le _ _ (by omega) (by omega)).mp h))]
      refine ⟨1000000, rfl, Or.inl rfl, fun x hx => ?_⟩
      unfold Gm ky
      rcases hx' x hx with h | h <;> simp <;> omega
def mu (f : Nat → Int32) (k : Nat) : Nat := (f k).toNatClampNeg
/-- the measures of all places -/
def MU (M1 M3 M5 n : Nat) (f : Nat → Int32) : Prop := ∀ k, k < n → f k = nI (mu f k) ∧ Vm M1 M3 M5 (mu f k)
/-- x is enough at k, by the measures t of the others -/
def OKx (n : Nat) (o r w : Nat → Int32) (t : Nat → Nat) (k x : Nat) : Prop :=
  x = 1000000 ∨ (if o k = 0 then ∃ u, u < n ∧ wyB w k u = true ∧ t u ≠ 1000000 ∧ Gm (rkN r k) x (t u) else ∀ u, u < n → wyB w k u = true → t u ≠ 1000000 ∧ Gm (rkN r k) x (t u))
theorem Vm_le {M1 M3 M5 m : Nat} (h3 : M3 ≤ 12) (h1 : M1 ≤ 12) (h5 : M5 ≤ 12) (h : Vm M1 M3 M5 m) : m ≤ 1000000 := by rcases h with h | h <;> omega
theorem p_hasWay {N n k j : Nat} {o r w s : Nat → Int32} (hF : FE n o r w s) (hk : k < n) (hn : n ≤ 12) (hj : j < 32) : f_X4_hasWay N (nI k) (nI j) s = some (if bt (w k) j = true then 1 else 0) := by
  obtain ⟨-, -, g3, -, -, s3⟩ := idm hF hk hn
  simp only [f_X4_hasWay, m25, chk_t g3, s3]
  rw [bt_get hj]
  cases bt (w k) j <;> rfl
theorem p_lifted {N n k M1 M3 M5 : Nat} {o r w s f : Nat → Int32} (hN : 13 ≤ N) (V : VF n o r w) (hF : FE n o r w s) (h1 : M1 ≤ 12) (h3 : M3 ≤ 12) (h5 : M5 ≤ 12) (hk : k < n) (hf : MU M1 M3 M5 n f) :
    ∃ L, f_X4_lifted N (nI k) s f (nI M1) (nI M3) (nI M5) = some (nI L) ∧ Vm M1 M3 M5 L ∧ ∀ x, Vm M1 M3 M5 x → (L ≤ x ↔ OKx n o r w (mu f) k x) := by
  obtain ⟨hn, hV⟩ := id V
  obtain ⟨g1, g2, -, s1, s2, -⟩ := idm hF hk hn
  have hqk := (hV k hk).2.1
  -- the walk over the places, for both owners
  have walk : ∀ (own : Int32) (b0 : Nat), (own = 1 ∧ b0 = 1000000) ∨ (own = 0 ∧ b0 = 0) → ∃ b, f_X4_lifted_L31 N (nI k) own s f (nI M1) (nI M3) (nI M5) N (nI b0) 0 = some (nI b) ∧ Vm M1 M3 M5 b ∧
      ∀ x, Vm M1 M3 M5 x → (b ≤ x ↔ if own = 1 then (x = 1000000 ∨ ∃ u, u < n ∧ wyB w k u = true ∧ mu f u ≠ 1000000 ∧ Gm (rkN r k) x (mu f u)) else (∀ u, u < n → wyB w k u = true → (x = 1000000 ∨ (mu f u ≠ 1000000 ∧ Gm (rkN r k) x (mu f u))))) := by
    intro own b0 hown
    obtain ⟨y, e1, b, e2, e3, e4⟩ := for_inv (fun m j a => f_X4_lifted_L31 N (nI k) own s f (nI M1) (nI M3) (nI M5) m a j) n
      (fun j (a : Int32) => ∃ b, a = nI b ∧ Vm M1 M3 M5 b ∧ ∀ x, Vm M1 M3 M5 x → (b ≤ x ↔ if own = 1 then (x = 1000000 ∨ ∃ u, u < j ∧ wyB w k u = true ∧ mu f u ≠ 1000000 ∧ Gm (rkN r k) x (mu f u)) else (∀ u, u < j → wyB w k u = true → (x = 1000000 ∨ (mu f u ≠ 1000000 ∧ Gm (rkN r k) x (mu f u))))))
      (fun a => ∃ b, a = nI b ∧ Vm M1 M3 M5 b ∧ ∀ x, Vm M1 M3 M5 x → (b ≤ x ↔ if own = 1 then (x = 1000000 ∨ ∃ u, u < n ∧ wyB w k u = true ∧ mu f u ≠ 1000000 ∧ Gm (rkN r k) x (mu f u)) else (∀ u, u < n → wyB w k u = true → (x = 1000000 ∨ (mu f u ≠ 1000000 ∧ Gm (rkN r k) x (mu f u))))))
      (fun m a ha => ⟨a, by simp only [f_X4_lifted_L31, chk_t g037, c0, hF.1]; rw [if_pos (Int32.le_refl _)], ha⟩)
      (fun m j a hj ha => Or.inr (by
        obtain ⟨b, rfl, hb, hx⟩ := ha
        obtain ⟨k1, k2, k3, k4⟩ := idx hj hn
        by_cases hw : wyB w k j = true
        · obtain ⟨fe, fv⟩ := hf j hj
          obtain ⟨a, a1, a2, a3⟩ := p_ahead (N := N) (q := rkN r k) (m := mu f j) hqk.2 h1 h3 h5 fv
          have hb6 := Vm_le h3 h1 h5 hb
          have ha6 := Vm_le h3 h1 h5 a2
          have run : ∀ c, (if own = 0 then (if nI a ≤ nI b then (some (nI b) : Option Int32) else some (nI a)) else if nI b ≤ nI a then some (nI b) else some (nI a)) = some (nI c) →
              f_X4_lifted_L31 N (nI k) own s f (nI M1) (nI M3) (nI M5) (m + 1) (nI b) (nI j) = f_X4_lifted_L31 N (nI k) own s f (nI M1) (nI M3) (nI M5) m (nI c) (nI (j + 1)) := by
            intro c hc
            simp only [f_X4_lifted_L31, chk_t g037, c0, hF.1, if_neg k1, p_hasWay (N := N) hF hk hn (show j < 32 by omega), show bt (w k) j = true from hw, if_true, Option.bind_some, if_neg (show ¬ (1 : Int32) = 0 by decide), m13, chk_t g2, s2, chk_t k2, k3]
            rw [fe, hqk.1, a1]
            simp only [Option.bind_some]
            rw [hc]
            simp only [Option.bind_some, k4]
          rcases hown with ⟨ho, -⟩ | ⟨ho, -⟩
          · by_cases hab : b ≤ a
            · refine ⟨nI b, run b (by rw [ho, if_neg (by decide), if_pos ((nI_leI (by omega) (by omega)).mpr hab)]), b, rfl, hb, fun x hv => ?_⟩
              rw [if_pos ho]
              have q1 := hx x hv
              rw [if_pos ho] at q1
              have q2 := a3 x hv
              constructor
              · intro h
                rcases q1.mp h with h | ⟨u, u1, u2⟩
                · exact Or.inl h
                · exact Or.inr ⟨u, by omega, u2⟩
              · rintro (h | ⟨u, u1, u2, u3⟩)
                · exact q1.mpr (Or.inl h)
                · by_cases e : u = j
                  · subst e
                    have := q2.mpr (Or.inr u3)
                    omega
                  · exact q1.mpr (Or.inr ⟨u, by omega, u2, u3⟩)
            · refine ⟨nI a, run a (by rw [ho, if_neg (by decide), if_neg (fun h => hab ((nI_leI (by omega) (by omega)).mp h))]), a, rfl, a2, fun x hv => ?_⟩
              rw [if_pos ho]
              have q1 := hx x hv
              rw [if_pos ho] at q1
              have q2 := a3 x hv
              constructor
              · intro h
                rcases q2.mp h with h | h
                · exact Or.inl h
                · exact Or.inr ⟨j, by omega, hw, h⟩
              · rintro (h | ⟨u, u1, u2, u3⟩)
                · exact q2.mpr (Or.inl h)
                · by_cases e : u = j
                  · subst e
                    exact q2.mpr (Or.inr u3)
                  · have := q1.mpr (Or.inr ⟨u, by omega, u2, u3⟩)
                    omega
          · by_cases hab : a ≤ b
            · refine ⟨nI b, run b (by rw [ho, if_pos rfl, if_pos ((nI_leI (by omega) (by omega)).mpr hab)]), b, rfl, hb, fun x hv => ?_⟩
              have hn1 : ¬ own = 1 := by rw [ho]; decide
              rw [if_neg hn1]
              have q1 := hx x hv
              rw [if_neg hn1] at q1
              have q2 := a3 x hv
              constructor
              · intro h u hu hwu
                by_cases e : u = j
                · subst e
                  exact q2.mp (by omega)
                · exact q1.mp h u (by omega) hwu
              · intro h
                exact q1.mpr (fun u hu hwu => h u (by omega) hwu)
            · refine ⟨nI a, run a (by rw [ho, if_pos rfl, if_neg (fun h => hab ((nI_leI (by omega) (by omega)).mp h))]), a, rfl, a2, fun x hv => ?_⟩
              have hn1 : ¬ own = 1 := by rw [ho]; decide
              rw [if_neg hn1]
              have q1 := hx x hv
              rw [if_neg hn1] at q1
              have q2 := a3 x hv
              constructor
              · intro h u hu hwu
                by_cases e : u = j
                · subst e
                  exact q2.mp h
                · exact q1.mp (by omega) u (by omega) hwu
              · intro h
                exact q2.mpr (h j (by omega) hw)
        · have hw' := bf hw
          refine ⟨nI b, ?_, b, rfl, hb, fun x hv => ?_⟩
          · simp only [f_X4_lifted_L31, chk_t g037, c0, hF.1, if_neg k1, p_hasWay (N := N) hF hk hn (show j < 32 by omega), show bt (w k) j = false from hw', Option.bind_some, if_neg (show ¬ false = true by decide), if_true, k4]
          · rw [hx x hv]
            have key : ∀ u, u < j + 1 → wyB w k u = true → u < j := fun u hu hwu => by
              have : u ≠ j := fun e => by rw [e, hw'] at hwu; cases hwu
              omega
            split
            · constructor
              · rintro (h | ⟨u, u1, u2⟩)
                · exact Or.inl h
                · exact Or.inr ⟨u, by omega, u2⟩
              · rintro (h | ⟨u, u1, u2, u3⟩)
                · exact Or.inl h
                · exact Or.inr ⟨u, key u u1 u2, u2, u3⟩
            · constructor
              · intro h u hu hwu
                exact h u (key u hu hwu) hwu
              · intro h u hu hwu
                exact h u (by omega) hwu))
      0 N (nI b0) (by omega) (by omega) ⟨b0, rfl, by
        rcases hown with ⟨-, h⟩ | ⟨-, h⟩
        · exact Or.inl h
        · rw [h]; exact Or.inr (by omega), fun x hv => by
        have h6 := Vm_le h3 h1 h5 hv
        rcases hown with ⟨h, h'⟩ | ⟨h, h'⟩
        · rw [if_pos h, h']
          constructor
          · intro h; exact Or.inl (by omega)
          · rintro (h | ⟨u, u1, -⟩)
            · omega
            · omega
        · rw [if_neg (by rw [h]; decide), h']
          constructor
          · intro _ u hu; omega
          · intro _; exact Nat.zero_le _⟩
    subst e2
    exact ⟨b, e1, e3, e4⟩
  rcases (hV k hk).1 with ho | ho
  · obtain ⟨b, e1, e2, e3⟩ := walk 1 1000000 (Or.inl ⟨rfl, rfl⟩)
    refine ⟨b, ?_, e2, fun x hv => ?_⟩
    · have e1' : f_X4_lifted_L31 N (nI k) 1 s f (nI M1) (nI M3) (nI M5) N 1000000 0 = some (nI b) := e1
      simp only [f_X4_lifted, m1, chk_t g1, s1, ho, if_true, Option.bind_some, if_neg (show ¬ (1 : Int32) = 0 by decide), e1']
    · rw [e3 x hv, if_pos rfl]
      unfold OKx
      rw [if_pos ho]
  · obtain ⟨b, e1, e2, e3⟩ := walk 0 0 (Or.inr ⟨rfl, rfl⟩)
    refine ⟨b, ?_, e2, fun x hv => ?_⟩
    · have e1' : f_X4_lifted_L31 N (nI k) 0 s f (nI M1) (nI M3) (nI M5) N 0 0 = some (nI b) := e1
      simp only [f_X4_lifted, m1, chk_t g1, s1, ho, if_neg (show ¬ (1 : Int32) = 0 by decide), Option.bind_some, if_true, e1']
    · rw [e3 x hv, if_neg (by decide)]
      unfold OKx
      rw [if_neg (by rw [ho]; decide)]
      constructor
      · intro h
        by_cases e : x = 1000000
        · exact Or.inl e
        · refine Or.inr (fun u hu hw => ?_)
          rcases h u hu hw with h | h
          · exact absurd h e
          · exact h
      · rintro (h | h) u hu hw
        · exact Or.inl h
        · exact Or.inr (h u hu hw)
