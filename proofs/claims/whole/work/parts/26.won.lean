/-! won: the least measures, and who wins by them -/
def su (f : Nat → Nat) : Nat → Nat
  | 0 => 0
  | n + 1 => su f n + f n
theorem su_mono {f g : Nat → Nat} {n : Nat} (h : ∀ i, i < n → f i ≤ g i) : su f n ≤ su g n := by
  induction n with
  | zero => exact Nat.le_refl 0
  | succ n ih =>
    have h1 := ih (fun i hi => h i (by omega))
    have h2 := h n (by omega)
    simp only [su]; omega
theorem su_lt {f g : Nat → Nat} {n k : Nat} (h : ∀ i, i < n → f i ≤ g i) (hk : k < n) (h1 : f k < g k) : su f n < su g n := by
  induction n with
  | zero => omega
  | succ n ih =>
    have h2 := su_mono (fun i hi => h i (by omega : i < n + 1)) (n := n)
    have h3 := h n (by omega)
    simp only [su]
    by_cases e : k = n
    · subst e; omega
    · have := ih (fun i hi => h i (by omega)) (by omega)
      omega
theorem su_le {f : Nat → Nat} {n c : Nat} (h : ∀ i, i < n → f i ≤ c) : su f n ≤ n * c := by
  induction n with
  | zero => simp [su]
  | succ n ih =>
    have h1 := ih (fun i hi => h i (by omega))
    have h2 := h n (by omega)
    simp only [su, Nat.succ_mul]; omega
theorem OKx_anti {n : Nat} {o r w : Nat → Int32} {t t' : Nat → Nat} {k x : Nat} (h : ∀ u, u < n → t' u ≤ t u ∧ (t u ≠ 1000000 → t' u ≠ 1000000)) (hx : OKx n o r w t k x) : OKx n o r w t' k x := by
  rcases hx with hx | hx
  · exact Or.inl hx
  refine Or.inr ?_
  have step : ∀ u, u < n → t u ≠ 1000000 ∧ Gm (rkN r k) x (t u) → t' u ≠ 1000000 ∧ Gm (rkN r k) x (t' u) := by
    intro u hu h1
    obtain ⟨a, b⟩ := h u hu
    refine ⟨b h1.1, ?_⟩
    unfold Gm at h1 ⊢
    have := Nat.div_le_div_right (c := ky (rkN r k)) a
    exact ⟨by have := h1.2.1; omega, fun hq => by have := h1.2.2 hq; omega⟩
  by_cases ho : o k = 0
  · rw [if_pos ho] at hx ⊢
    obtain ⟨u, u1, u2, u3⟩ := hx
    exact ⟨u, u1, u2, step u u1 u3⟩
  · rw [if_neg ho] at hx ⊢
    exact fun u hu hw => step u hu (hx u hu hw)
theorem OKx_ext {n : Nat} {o r w : Nat → Int32} {t t' : Nat → Nat} {k x : Nat} (h : ∀ u, u < n → t' u = t u) (hx : OKx n o r w t k x) : OKx n o r w t' k x :=
  OKx_anti (fun u hu => ⟨by rw [h u hu]; exact Nat.le_refl _, fun e => by rw [h u hu]; exact e⟩) hx
/-- measures that are enough everywhere -/
def Pre (M1 M3 M5 n : Nat) (o r w : Nat → Int32) (t : Nat → Nat) : Prop := ∀ k, k < n → Vm M1 M3 M5 (t k) ∧ OKx n o r w t k (t k)
theorem mu_upd {f : Nat → Int32} {k a : Nat} (ha : a < 2 ^ 31) (j : Nat) : mu (upd f k (nI a)) j = if j = k then a else mu f j := by
  unfold mu upd
  split
  · exact nI_clamp ha
  · rfl
theorem mu_le {M1 M3 M5 n : Nat} {f : Nat → Int32} (h1 : M1 ≤ 12) (h3 : M3 ≤ 12) (h5 : M5 ≤ 12) (h : MU M1 M3 M5 n f) : ∀ k, k < n → mu f k ≤ 1000000 := fun k hk => Vm_le h3 h1 h5 (h k hk).2
/-- one walk over all places -/
theorem p_sweep {N n M1 M3 M5 : Nat} {o r w s f : Nat → Int32} (hN : 13 ≤ N) (V : VF n o r w) (hF : FE n o r w s) (h1 : M1 ≤ 12) (h3 : M3 ≤ 12) (h5 : M5 ≤ 12) (hf : MU M1 M3 M5 n f) :
    ∃ b f', f_X4_won_L58 N s (nI M1) (nI M3) (nI M5) N 0 0 f = some (b, f') ∧ MU M1 M3 M5 n f' ∧ (∀ t, Pre M1 M3 M5 n o r w t → (∀ k, k < n → mu f k ≤ t k) → ∀ k, k < n → mu f' k ≤ t k) ∧
      ((b = 0 ∧ ∀ k, k < n → OKx n o r w (mu f') k (mu f' k)) ∨ (b = 1 ∧ su (mu f) n < su (mu f') n)) := by
  obtain ⟨hn, hV⟩ := id V
  obtain ⟨y, e1, b, f', e2, e3, e4, e5, e6⟩ := for_inv (fun m k (t : Int32 × (Nat → Int32)) => f_X4_won_L58 N s (nI M1) (nI M3) (nI M5) m t.1 k t.2) n
    (fun k t => ∃ b f', t = (b, f') ∧ MU M1 M3 M5 n f' ∧ (∀ t, Pre M1 M3 M5 n o r w t → (∀ k, k < n → mu f k ≤ t k) → ∀ k, k < n → mu f' k ≤ t k) ∧ (∀ j, j < n → mu f j ≤ mu f' j) ∧
      ((b = 0 ∧ (∀ j, j < n → mu f' j = mu f j) ∧ ∀ j, j < k → OKx n o r w (mu f) j (mu f j)) ∨ (b = 1 ∧ ∃ j, j < n ∧ mu f j < mu f' j)))
    (fun t => ∃ b f', t = (b, f') ∧ MU M1 M3 M5 n f' ∧ (∀ t, Pre M1 M3 M5 n o r w t → (∀ k, k < n → mu f k ≤ t k) → ∀ k, k < n → mu f' k ≤ t k) ∧ (∀ j, j < n → mu f j ≤ mu f' j) ∧
      ((b = 0 ∧ (∀ j, j < n → mu f' j = mu f j) ∧ ∀ j, j < n → OKx n o r w (mu f) j (mu f j)) ∨ (b = 1 ∧ ∃ j, j < n ∧ mu f j < mu f' j)))
    (fun m t ht => ⟨t, by simp only [f_X4_won_L58, chk_t g037, c0, hF.1]; rw [if_pos (Int32.le_refl _)], ht⟩)
    (fun m k t hk ht => Or.inr (by
      obtain ⟨b, f', rfl, a1, a2, a3, a4⟩ := ht
      obtain ⟨k1, k2, k3, k4⟩ := idx hk hn
      obtain ⟨L, l1, l2, l3⟩ := p_lifted (N := N) hN V hF h1 h3 h5 hk a1
      have hL6 := Vm_le h3 h1 h5 l2
      obtain ⟨fe, fv⟩ := a1 k hk
      have hf6 := Vm_le h3 h1 h5 fv
      have hle : nI L ≤ nI (mu f' k) ↔ L ≤ mu f' k := nI_leI (by omega) (by omega)
      have hself : upd f' k (nI (mu f' k)) = f' := by
        funext j
        unfold upd
        split
        · next e => rw [e, ← fe]
        · rfl
      by_cases hl : L ≤ mu f' k
      · -- nothing rises here
        refine ⟨(b, f'), ?_, b, f', rfl, a1, a2, a3, ?_⟩
        · simp only [f_X4_won_L58, chk_t g037, c0, hF.1, if_neg k1, l1, Option.bind_some, chk_t k2, k3]
          rw [fe]
          rcases a4 with ⟨hb, -⟩ | ⟨hb, -⟩
          · rw [hb]; simp only [if_true, if_pos (hle.mpr hl), Option.bind_some, hself, k4]
          · rw [hb]; simp only [if_neg (show ¬ (1 : Int32) = 0 by decide), if_pos (hle.mpr hl), Option.bind_some, hself, k4]
        · rcases a4 with ⟨hb, c1, c2⟩ | h
          · refine Or.inl ⟨hb, c1, fun j hj => ?_⟩
            by_cases e : j = k
            · subst e
              have := (l3 _ fv).mp hl
              rw [c1 j hk] at this
              exact OKx_ext (fun u hu => (c1 u hu).symm) this
            · exact c2 j (by omega)
          · exact Or.inr h
      · refine ⟨(1, upd f' k (nI L)), ?_, 1, _, rfl, ?_, ?_, ?_, Or.inr ⟨rfl, k, hk, ?_⟩⟩
        · simp only [f_X4_won_L58, chk_t g037, c0, hF.1, if_neg k1, l1, Option.bind_some, chk_t k2, k3]
          rw [fe]
          have hnl : ¬ nI L ≤ nI (mu f' k) := fun h => hl (hle.mp h)
          rcases a4 with ⟨hb, -⟩ | ⟨hb, -⟩
          · rw [hb]; simp only [if_true, if_neg hnl, Option.bind_some, k4]
          · rw [hb]; simp only [if_neg (show ¬ (1 : Int32) = 0 by decide), if_neg hnl, Option.bind_some, k4]
        · intro j hj
          rw [mu_upd (by omega)]
          by_cases e : j = k
          · rw [if_pos e]
            exact ⟨by unfold upd; rw [if_pos e], l2⟩
          · rw [if_neg e]
            exact ⟨by unfold upd; rw [if_neg e]; exact (a1 j hj).1, (a1 j hj).2⟩
        · intro t ht hft j hj
          rw [mu_upd (by omega)]
          by_cases e : j = k
          · rw [if_pos e, e]
            have hb := a2 t ht hft
            refine (l3 _ (ht k hk).1).mpr (OKx_anti (fun u hu => ⟨hb u hu, fun hne => ?_⟩) (ht k hk).2)
            have := hb u hu
            have := Vm_le h3 h1 h5 (ht u hu).1
            omega
          · rw [if_neg e]; exact a2 t ht hft j hj
        · intro j hj
          rw [mu_upd (by omega)]
          by_cases e : j = k
          · rw [if_pos e, e]; have := a3 k hk; omega
          · rw [if_neg e]; exact a3 j hj
        · rw [mu_upd (by omega), if_pos rfl]; have := a3 k hk; omega))
    0 N (0, f) (by omega) (by omega) ⟨0, f, rfl, hf, fun t _ h => h, fun _ _ => Nat.le_refl _, Or.inl ⟨rfl, fun _ _ => rfl, fun j hj => by omega⟩⟩
  refine ⟨b, f', by rw [← e2]; exact e1, e3, e4, ?_⟩
  rcases e6 with ⟨h, c1, c2⟩ | ⟨h, j, c1, c2⟩
  · refine Or.inl ⟨h, fun k hk => ?_⟩
    rw [c1 k hk]
    exact OKx_ext c1 (c2 k hk)
  · exact Or.inr ⟨h, su_lt e5 c1 c2⟩
/-- the least fixpoint -/
theorem p_lfp {N n M1 M3 M5 : Nat} {o r w s f : Nat → Int32} (hN : 13000000 ≤ N) (V : VF n o r w) (hF : FE n o r w s) (h1 : M1 ≤ 12) (h3 : M3 ≤ 12) (h5 : M5 ≤ 12) (hf : ∀ k, k < n → f k = 0) :
    ∃ f', f_X4_won_L50 N s (nI M1) (nI M3) (nI M5) N 1 f = some f' ∧ MU M1 M3 M5 n f' ∧ (∀ t, Pre M1 M3 M5 n o r w t → ∀ k, k < n → mu f' k ≤ t k) ∧ ∀ k, k < n → OKx n o r w (mu f') k (mu f' k) := by
  obtain ⟨hn, hV⟩ := id V
  have h0 : ∀ k, k < n → mu f k = 0 := fun k hk => by unfold mu; rw [hf k hk]; decide
  exact loop_inv (fun m (t : Int32 × (Nat → Int32)) => f_X4_won_L50 N s (nI M1) (nI M3) (nI M5) m t.1 t.2)
    (fun j t => MU M1 M3 M5 n t.2 ∧ (∀ u, Pre M1 M3 M5 n o r w u → ∀ k, k < n → mu t.2 k ≤ u k) ∧ ((t.1 = 0 ∧ ∀ k, k < n → OKx n o r w (mu t.2) k (mu t.2 k)) ∨ (t.1 = 1 ∧ 12000001 ≤ su (mu t.2) n + j)))
    (fun f' => MU M1 M3 M5 n f' ∧ (∀ t, Pre M1 M3 M5 n o r w t → ∀ k, k < n → mu f' k ≤ t k) ∧ ∀ k, k < n → OKx n o r w (mu f') k (mu f' k))
    (fun m t ht => by
      obtain ⟨b, g⟩ := t
      obtain ⟨a1, a2, a3⟩ := ht
      rcases a3 with ⟨hb, a3⟩ | ⟨-, a3⟩
      · have hb : b = 0 := hb
        refine ⟨g, ?_, a1, a2, a3⟩
        show f_X4_won_L50 N s (nI M1) (nI M3) (nI M5) (m + 1) b g = _
        rw [f_X4_won_L50, if_pos hb]
      · exfalso
        have a1 : MU M1 M3 M5 n g := a1
        have a3 : 12000001 ≤ su (mu g) n + 0 := a3
        have := su_le (mu_le h1 h3 h5 a1)
        have : n * 1000000 ≤ 12 * 1000000 := Nat.mul_le_mul_right _ hn
        omega)
    (fun m j t ht => by
      obtain ⟨b, g⟩ := t
      obtain ⟨a1, a2, a3⟩ := ht
      have a1 : MU M1 M3 M5 n g := a1
      have a2 : ∀ u, Pre M1 M3 M5 n o r w u → ∀ k, k < n → mu g k ≤ u k := a2
      rcases a3 with ⟨hb, a3⟩ | ⟨hb, a3⟩
      · have hb : b = 0 := hb
        refine Or.inl ⟨g, ?_, a1, a2, a3⟩
        show f_X4_won_L50 N s (nI M1) (nI M3) (nI M5) (m + 1) b g = _
        rw [f_X4_won_L50, if_pos hb]
      · have hb : b = 1 := hb
        have a3 : 12000001 ≤ su (mu g) n + (j + 1) := a3
        obtain ⟨b', g', e1, e2, e3, e4⟩ := p_sweep (N := N) (by omega) V hF h1 h3 h5 a1
        refine Or.inr ⟨(b', g'), ?_, e2, fun u hu => e3 u hu (a2 u hu), ?_⟩
        · show f_X4_won_L50 N s (nI M1) (nI M3) (nI M5) (m + 1) b g = _
          rw [f_X4_won_L50, if_neg (by rw [hb]; decide), e1]
          rfl
        · rcases e4 with h | ⟨h, h'⟩
          · exact Or.inl h
          · exact Or.inr ⟨h, by show 12000001 ≤ su (mu g') n + j; omega⟩)
    12000001 N (1, f) (by omega) ⟨fun k hk => ⟨by rw [h0 k hk]; exact hf k hk, by rw [h0 k hk]; exact Or.inr (by omega)⟩, fun u _ k hk => by rw [h0 k hk]; exact Nat.zero_le _, Or.inr ⟨rfl, Nat.le_add_left _ _⟩⟩
/-- finite measures are a certificate of player 0 -/
theorem lfp_cert {n M1 M3 M5 : Nat} {o r w f : Nat → Int32} (V : VF n o r w) (h1 : M1 ≤ 12) (h3 : M3 ≤ 12) (h5 : M5 ≤ 12) (hf : MU M1 M3 M5 n f) (hfix : ∀ k, k < n → OKx n o r w (mu f) k (mu f k)) :
    ∃ g, Cert 0 n (owN o) (rkN r) (wyB w) (fun _ => true) (fun v => decide (mu f v ≠ 1000000)) g := by
  obtain ⟨hn, hV⟩ := V
  refine ⟨fun v => (mu f v / 169) * 256 ^ 5 + (mu f v / 13 % 13) * 256 ^ 3 + (mu f v % 13) * 256, fun v hv hs => ⟨rfl, ?_⟩⟩
  have hs : mu f v ≠ 1000000 := of_decide_eq_true hs
  have hx := hfix v hv
  have hdn : ∀ u, u < n → mu f u ≠ 1000000 ∧ Gm (rkN r v) (mu f v) (mu f u) → dn 0 (rkN r) (fun v => (mu f v / 169) * 256 ^ 5 + (mu f v / 13 % 13) * 256 ^ 3 + (mu f v % 13) * 256) v u := by
    intro u hu ⟨hne, hg⟩
    have bv : mu f v / 169 ≤ 12 := by rcases (hf v hv).2 with h | h <;> omega
    have bu : mu f u / 169 ≤ 12 := by rcases (hf u hu).2 with h | h <;> omega
    unfold dn
    dsimp only
    unfold Gm ky at hg
    have hq := (hV v hv).2.1.2
    generalize rkN r v = q at hq hg ⊢
    generalize mu f v = a at bv hg ⊢
    generalize mu f u = b at bu hg ⊢
    have ea : a / 169 = a / 13 / 13 := by omega
    have eb : b / 169 = b / 13 / 13 := by omega
    rcases (show q = 0 ∨ q = 1 ∨ q = 2 ∨ q = 3 ∨ q = 4 ∨ q = 5 by omega) with rfl | rfl | rfl | rfl | rfl | rfl <;> simp at hg ⊢ <;> omega
  rcases hx with hx | hx
  · exact absurd hx hs
  · refine ⟨fun ho => ?_, fun ho u hu hw _ => ?_⟩
    · have h0 : o v = 0 := (owN_eq (i := 0) (hV v hv).1 (by omega)).mpr ho
      rw [if_pos h0] at hx
      obtain ⟨u, u1, u2, u3⟩ := hx
      exact ⟨u, u1, u2, decide_eq_true u3.1, hdn u u1 u3⟩
    · have h0 : ¬ o v = 0 := fun h => ho ((owN_eq (i := 0) (hV v hv).1 (by omega)).mp h)
      rw [if_neg h0] at hx
      exact ⟨decide_eq_true (hx u hu hw).1, hdn u hu (hx u hu hw)⟩
/-- a certificate of player 0, counted, is a measure that is enough -/
theorem cert_pre {n : Nat} {o r w : Nat → Int32} {R : Nat → Bool} {f : Nat → Nat} (V : VF n o r w) (h : Cert 0 n (owN o) (rkN r) (wyB w) (fun _ => true) R f) :
    ∃ t, Pre (cn (fun v => decide (rkN r v = 1)) n) (cn (fun v => decide (rkN r v = 3)) n) (cn (fun v => decide (rkN r v = 5)) n) n o r w t ∧ ∀ v, v < n → R v = true → t v ≠ 1000000 := by
  obtain ⟨hn, hV⟩ := V
  obtain ⟨cq, hcq⟩ : ∃ cq : Nat → Nat → Nat, ∀ q v, cq q v = cn (fun u => R u && (decide (rkN r u = q) && decide (f u / 256 ^ q ≤ f v / 256 ^ q))) n := ⟨_, fun _ _ => rfl⟩
  have cM : ∀ q v, cq q v ≤ cn (fun u => decide (rkN r u = q)) n := fun q v => by rw [hcq]; exact cn_mono (fun i _ hi => (bat2 (bat2 hi).2).1)
  have c12 : ∀ q v, cq q v ≤ 12 := fun q v => Nat.le_trans (cM q v) (Nat.le_trans (cn_le _ _) hn)
  obtain ⟨t, ht1, ht2⟩ : ∃ t : Nat → Nat, (∀ v, R v = true → t v = 169 * cq 5 v + 13 * cq 3 v + cq 1 v) ∧ (∀ v, R v = false → t v = 1000000) :=
    ⟨fun v => if R v = true then 169 * cq 5 v + 13 * cq 3 v + cq 1 v else 1000000, fun v h => if_pos h, fun v h => if_neg (by rw [h]; simp)⟩
  have hlt : ∀ v, R v = true → t v ≠ 1000000 ∧ t v / 169 = cq 5 v ∧ t v / 13 = 13 * cq 5 v + cq 3 v ∧ t v / 13 % 13 = cq 3 v ∧ t v % 13 = cq 1 v := by
    intro v hv
    have a5 := c12 5 v
    have a3 := c12 3 v
    have a1 := c12 1 v
    rw [ht1 v hv]
    omega
  refine ⟨t, fun k hk => ?_, fun v _ hv => (hlt v hv).1⟩
  by_cases hR : R k = true
  · obtain ⟨l0, l5, l53, l3, l1⟩ := hlt k hR
    refine ⟨Or.inr ⟨by rw [l5]; exact cM 5 k, by rw [l3]; exact cM 3 k, by rw [l1]; exact cM 1 k⟩, Or.inr ?_⟩
    obtain ⟨-, hc1, hc2⟩ := h k hk hR
    have hG : ∀ u, u < n → R u = true → dn 0 (rkN r) f k u → t u ≠ 1000000 ∧ Gm (rkN r k) (t k) (t u) := by
      intro u hu hRu hd
      obtain ⟨m0, m5, m53, m3, m1⟩ := hlt u hRu
      refine ⟨m0, ?_⟩
      have hq := (hV k hk).2.1.2
      have hle : ∀ q, rkN r k ≤ q → cq q u ≤ cq q k := by
        intro q hq
        have hp : 256 ^ q = 256 ^ rkN r k * 256 ^ (q - rkN r k) := by rw [← Nat.pow_add]; congr 1; omega
        have h1 : f u / 256 ^ q ≤ f k / 256 ^ q := by
          rw [hp, ← Nat.div_div_eq_div_mul, ← Nat.div_div_eq_div_mul]
          exact Nat.div_le_div_right hd.1
        rw [hcq, hcq]
        refine cn_mono (fun i _ hi => ?_)
        obtain ⟨z1, z2⟩ := bat2 hi
        obtain ⟨z2, z3⟩ := bat2 z2
        have z3 : f i / 256 ^ q ≤ f u / 256 ^ q := of_decide_eq_true z3
        exact bat z1 (bat z2 (decide_eq_true (Nat.le_trans z3 h1)))
      have hlt' : rkN r k % 2 = 1 → cq (rkN r k) u < cq (rkN r k) k := by
        intro ho
        have h1 := hd.2 (by omega)
        rw [hcq, hcq]
        refine cn_lt (k := k) (fun i _ hi => ?_) hk ?_ ?_
        · obtain ⟨z1, z2⟩ := bat2 hi
          obtain ⟨z2, z3⟩ := bat2 z2
          have z3 : f i / 256 ^ rkN r k ≤ f u / 256 ^ rkN r k := of_decide_eq_true z3
          exact bat z1 (bat z2 (decide_eq_true (by omega)))
        · show (R k && (decide (rkN r k = rkN r k) && decide (f k / 256 ^ rkN r k ≤ f u / 256 ^ rkN r k))) = false
          rw [decide_eq_false (by omega : ¬ f k / 256 ^ rkN r k ≤ f u / 256 ^ rkN r k), Bool.and_false, Bool.and_false]
        · show (R k && (decide (rkN r k = rkN r k) && decide (f k / 256 ^ rkN r k ≤ f k / 256 ^ rkN r k))) = true
          exact bat hR (bat (decide_eq_true rfl) (decide_eq_true (Nat.le_refl _)))
      have tk := ht1 k hR
      have tu := ht1 u hRu
      unfold Gm ky
      generalize rkN r k = q at hq hle hlt' ⊢
      rcases (show q = 0 ∨ q = 1 ∨ q = 2 ∨ q = 3 ∨ q = 4 ∨ q = 5 by omega) with rfl | rfl | rfl | rfl | rfl | rfl
      · have a1 := hle 1 (by omega)
        have a3 := hle 3 (by omega)
        have a5 := hle 5 (by omega)
        simp; omega
      · have a1 := hlt' rfl
        have a3 := hle 3 (by omega)
        have a5 := hle 5 (by omega)
        simp; omega
      · have a3 := hle 3 (by omega)
        have a5 := hle 5 (by omega)
        simp; omega
      · have a3 := hlt' rfl
        have a5 := hle 5 (by omega)
        simp; omega
      · have a5 := hle 5 (by omega)
        simp; omega
      · have a5 := hlt' rfl
        simp; omega
    by_cases ho : o k = 0
    · rw [if_pos ho]
      obtain ⟨u, u1, u2, u3, u4⟩ := hc1 ((owN_eq (i := 0) (hV k hk).1 (by omega)).mp ho)
      exact ⟨u, u1, u2, hG u u1 u3 u4⟩
    · rw [if_neg ho]
      intro u hu hw
      obtain ⟨u3, u4⟩ := hc2 (fun h => ho ((owN_eq (i := 0) (hV k hk).1 (by omega)).mpr h)) u hu hw rfl
      exact hG u hu u3 u4
  · have e := ht2 k (bf hR)
    exact ⟨by rw [e]; exact Or.inl rfl, by rw [e]; exact Or.inl rfl⟩
/-- the reference finds the same set -/
theorem p_won {N n : Nat} {o r w s meas : Nat → Int32} {a1 a3 a5 R : Int32} (hN : 13000000 ≤ N) (V : VF n o r w) (hF : FE n o r w s) (hR : WinS n o r w R) :
    ∃ g b1 b3 b5, f_X4_won N s meas a1 a3 a5 = some (R, g, b1, b3, b5) := by
  obtain ⟨hn, hV⟩ := id V
  have w1 := p_withRank (N := N) (q := 1) (by omega) V hF (by omega)
  have w3 := p_withRank (N := N) (q := 3) (by omega) V hF (by omega)
  have w5 := p_withRank (N := N) (q := 5) (by omega) V hF (by omega)
  generalize hM1 : cn (fun v => decide (rkN r v = 1)) n = M1 at w1
  generalize hM3 : cn (fun v => decide (rkN r v = 3)) n = M3 at w3
  generalize hM5 : cn (fun v => decide (rkN r v = 5)) n = M5 at w5
  have h1 : M1 ≤ 12 := by rw [← hM1]; exact Nat.le_trans (cn_le _ _) hn
  have h3 : M3 ≤ 12 := by rw [← hM3]; exact Nat.le_trans (cn_le _ _) hn
  have h5 : M5 ≤ 12 := by rw [← hM5]; exact Nat.le_trans (cn_le _ _) hn
  obtain ⟨g0, z1, z2⟩ := for_inv (fun m k f => f_X4_won_L29 N m k f) 12 (fun k (f : Nat → Int32) => ∀ j, j < k → f j = 0) (fun f => ∀ j, j < 12 → f j = 0)
    (fun m f hf => ⟨f, by simp only [f_X4_won_L29]; rw [if_pos (by decide)], hf⟩)
    (fun m k f hk hf => Or.inr ⟨upd f k 0, by
      obtain ⟨k1, k2, k3, k4⟩ := idx hk (Nat.le_refl 12)
      have k1 : ¬ (12 : Int32) ≤ nI k := k1
      simp only [f_X4_won_L29, if_neg k1, chk_t k2, k3, k4], fun j hj => by
      unfold upd
      split
      · rfl
      · exact hf j (by omega)⟩)
    0 N meas (by omega) (by omega) (fun j hj => by omega)
  obtain ⟨f, f1, f2, f3, f4⟩ := p_lfp hN V hF h1 h3 h5 (fun k hk => z2 k (by omega))
  obtain ⟨x, x1, x2⟩ := or_loop (fun m a k => f_X4_won_L133 N s f m a k) n (fun k => decide (mu f k ≠ 1000000)) (fun m a => by simp only [f_X4_won_L133, chk_t g037, c0, hF.1]; rw [if_pos (Int32.le_refl _)]) hn (fun m a k hk => by
    obtain ⟨k1, k2, k3, k4⟩ := idx hk hn
    have h6 := mu_le h1 h3 h5 f2 k hk
    simp only [f_X4_won_L133, chk_t g037, c0, hF.1, if_neg k1, chk_t k2, k3, k4]
    rw [(f2 k hk).1]
    by_cases e : mu f k = 1000000
    · rw [if_pos (show (1000000 : Int32) ≤ nI (mu f k) by rw [e]; decide)]
      simp [e]
    · rw [if_neg (show ¬ (1000000 : Int32) ≤ nI (mu f k) from fun h => e (by have := (nI_leI (a := 1000000) (by omega) (by omega)).mp h; omega))]
      simp [e]) 0 N (by omega)
  have hxS : Sub n x := fun b hb1 hb2 => by rw [x2 b hb2, b_0]; simp; omega
  have hxR : x = R := by
    apply ext_n hxS hR.1
    intro v hv
    rw [x2 v (by omega), b_0]
    simp only [hv, decide_true, Bool.true_and, Bool.false_or]
    by_cases e : mu f v = 1000000
    · rw [decide_eq_false (by simp [e])]
      refine (bf (fun hb => ?_)).symm
      obtain ⟨-, ⟨c, hc⟩, -⟩ := hR
      obtain ⟨t, t1, t2⟩ := cert_pre V hc
      rw [hM1, hM3, hM5] at t1
      have a := f3 t t1 v hv
      have b := t2 v hv hb
      have c := Vm_le h3 h1 h5 (t1 v hv).1
      omega
    · rw [decide_eq_true e]
      obtain ⟨c, hc⟩ := lfp_cert V h1 h3 h5 f2 f4
      exact (win_in V hR hc hv (decide_eq_true e)).symm
  refine ⟨f, nI M1, nI M3, nI M5, ?_⟩
  have w1 : f_X4_withRank N 1 s = some (nI M1) := w1
  have w3 : f_X4_withRank N 3 s = some (nI M3) := w3
  have w5 : f_X4_withRank N 5 s = some (nI M5) := w5
  have z1 : f_X4_won_L29 N N 0 meas = some g0 := z1
  have x1 : f_X4_won_L133 N s f N 0 0 = some x := x1
  simp only [f_X4_won, w1, w3, w5, Option.bind_some, z1, f1, x1]
  rw [hxR]
