/-! choices: what makes them, and that they are the only ones -/
theorem least_nat {Q : Nat → Prop} {u : Nat} (h : Q u) : ∃ u, Q u ∧ ∀ v, v < u → ¬ Q v := by
  have key : ∀ m, (∃ u, u < m ∧ Q u) → ∃ u, Q u ∧ ∀ v, v < u → ¬ Q v := by
    intro m
    induction m with
    | zero => intro ⟨u, hu, _⟩; omega
    | succ m ih =>
      intro ⟨u, hu, hq⟩
      by_cases e : ∃ u, u < m ∧ Q u
      · exact ih e
      · exact ⟨u, hq, fun v hv hqv => e ⟨v, by omega, hqv⟩⟩
  exact key (u + 1) ⟨u, by omega, h⟩
theorem cert_cong {i n : Nat} {ow rk ow' rk' : Nat → Nat} {wy wy' : Nat → Nat → Bool} {A S : Nat → Bool} {f : Nat → Nat} (ho : ∀ v, v < n → ow' v = ow v) (hr : ∀ v, v < n → rk' v = rk v) (hw : ∀ v u, v < n → u < n → wy' v u = wy v u) (h : Cert i n ow rk wy A S f) : Cert i n ow' rk' wy' A S f := by
  intro v hv hs
  obtain ⟨a, b, c⟩ := h v hv hs
  have hd : ∀ u, dn i rk f v u → dn i rk' f v u := fun u hu => by unfold dn at hu ⊢; rw [hr v hv]; exact hu
  refine ⟨a, fun e => ?_, fun e u hu hwy hA => ?_⟩
  · obtain ⟨u, u1, u2, u3, u4⟩ := b ((ho v hv).symm.trans e)
    exact ⟨u, u1, (hw v u hv u1).trans u2, u3, hd u u4⟩
  · obtain ⟨c1, c2⟩ := c (fun e' => e ((ho v hv).trans e')) u hu ((hw v u hv hu).symm.trans hwy) hA
    exact ⟨c1, hd u c2⟩
theorem WinS_cong {n : Nat} {o r w o' r' w' : Nat → Int32} {R : Int32} (h : WinS n o r w R) (ho : ∀ v, v < n → o' v = o v ∧ r' v = r v ∧ w' v = w v) : WinS n o' r' w' R := by
  obtain ⟨h0, ⟨f, h1⟩, ⟨g, h2⟩⟩ := h
  have a1 : ∀ v, v < n → owN o' v = owN o v := fun v hv => by unfold owN; rw [(ho v hv).1]
  have a2 : ∀ v, v < n → rkN r' v = rkN r v := fun v hv => by unfold rkN; rw [(ho v hv).2.1]
  have a3 : ∀ v u, v < n → u < n → wyB w' v u = wyB w v u := fun v u hv _ => by unfold wyB; rw [(ho v hv).2.2]
  exact ⟨h0, ⟨f, cert_cong a1 a2 a3 h1⟩, ⟨g, cert_cong a1 a2 a3 h2⟩⟩
theorem VF_cong {n : Nat} {o r w o' r' w' : Nat → Int32} (V : VF n o r w) (h : ∀ k, k < n → o' k = o k ∧ r' k = r k ∧ w' k = w k) : VF n o' r' w' := by
  refine ⟨V.1, fun k hk => ?_⟩
  obtain ⟨h1, h2, h3⟩ := h k hk
  have := V.2 k hk
  unfold rkN at this ⊢
  rw [h1, h2, h3]
  exact this
theorem wy_n {t : Nat → Int32} {k u a b : Nat} (h : a ≠ k) : wyB (upd t k (bit u)) a b = wyB t a b := by unfold wyB; rw [upd_n h]
theorem wy_s {t : Nat → Int32} {k u b : Nat} (hu : u < 32) (hb : b < 32) : wyB (upd t k (bit u)) k b = decide (b = u) := by unfold wyB bit; rw [upd_s]; exact bt_bit hu hb
theorem cert_upd {i n k u : Nat} {ow rk : Nat → Nat} {t : Nat → Int32} {A S : Nat → Bool} {f : Nat → Nat} (hn : n ≤ 12) (hu : u < n) (h : Cert i n ow rk (wyB t) A S f) (hk : S k = true → ow k = i ∧ S u = true ∧ dn i rk f k u) : Cert i n ow rk (wyB (upd t k (bit u))) A S f := by
  intro v hv hs
  obtain ⟨a, b, c⟩ := h v hv hs
  by_cases ev : v = k
  · subst ev
    obtain ⟨k1, k2, k3⟩ := hk hs
    exact ⟨a, fun _ => ⟨u, hu, by rw [wy_s (by omega) (by omega)]; simp, k2, k3⟩, fun h' => absurd k1 h'⟩
  · refine ⟨a, fun eo => ?_, fun eo x hx hw hA => c eo x hx (by rw [wy_n ev] at hw; exact hw) hA⟩
    obtain ⟨x, x1, x2, x3, x4⟩ := b eo
    exact ⟨x, x1, by rw [wy_n ev]; exact x2, x3, x4⟩
/-- a way that the winner can go, and all stay -/
theorem cho_ex {n k : Nat} {o r t : Nat → Int32} {R : Int32} (hn : n ≤ 12) (h : WinS n o r t R) (hk : k < n) (hb : bt R k = decide (owN o k = 0)) : ∃ u, u < n ∧ bt (t k) u = true ∧ WinS n o r (upd t k (bit u)) R := by
  obtain ⟨h0, ⟨f, h1⟩, ⟨g, h2⟩⟩ := h
  by_cases e : owN o k = 0
  · have hR : bt R k = true := by rw [hb]; exact decide_eq_true e
    obtain ⟨u, u1, u2, u3, u4⟩ := (h1 k hk hR).2.1 e
    exact ⟨u, u1, u2, h0, ⟨f, cert_upd hn u1 h1 (fun _ => ⟨e, u3, u4⟩)⟩, ⟨g, cert_upd hn u1 h2 (fun hs => by
      have hs : (!bt R k) = true := hs
      rw [hR] at hs; exact absurd hs (by decide))⟩⟩
  · have e1 : owN o k = 1 := by rcases owN_lt (o := o) (v := k) with h | h <;> omega
    have hR : bt R k = false := by rw [hb]; exact decide_eq_false e
    obtain ⟨u, u1, u2, u3, u4⟩ := (h2 k hk (by show (!bt R k) = true; rw [hR]; rfl)).2.1 e1
    exact ⟨u, u1, u2, h0, ⟨f, cert_upd hn u1 h1 (fun hs => by rw [hR] at hs; exact absurd hs (by decide))⟩, ⟨g, cert_upd hn u1 h2 (fun _ => ⟨e1, u3, u4⟩)⟩⟩
/-- a single way of the winner that all stay by goes to a place of the same winner -/
theorem cho_same {n k u : Nat} {o r t : Nat → Int32} {R : Int32} (hn : n ≤ 12) (hu : u < n) (hk : k < n) (h : WinS n o r (upd t k (bit u)) R) (hb : bt R k = decide (owN o k = 0)) : bt R u = bt R k := by
  obtain ⟨h0, ⟨f, h1⟩, ⟨g, h2⟩⟩ := h
  by_cases e : owN o k = 0
  · have hR : bt R k = true := by rw [hb]; exact decide_eq_true e
    obtain ⟨x, x1, x2, x3, x4⟩ := (h1 k hk hR).2.1 e
    rw [wy_s (by omega) (by omega)] at x2
    have : x = u := by simpa using x2
    subst this
    rw [hR]; exact x3
  · have e1 : owN o k = 1 := by rcases owN_lt (o := o) (v := k) with h | h <;> omega
    have hR : bt R k = false := by rw [hb]; exact decide_eq_false e
    obtain ⟨x, x1, x2, x3, x4⟩ := (h2 k hk (by show (!bt R k) = true; rw [hR]; rfl)).2.1 e1
    rw [wy_s (by omega) (by omega)] at x2
    have : x = u := by simpa using x2
    subst this
    have x3 : (!bt R x) = true := x3
    rw [hR]; simpa using x3
def St (n : Nat) (o r w : Nat → Int32) (R : Int32) (k : Nat) (t t' : Nat → Int32) (c : Int32) : Prop :=
    (w k = 0 → c = -4 ∧ ∀ v, v < n → t' v = t v) ∧
    (¬ w k = 0 → bt R k = decide (owN o k = 0) → ∃ u, u < n ∧ c = nI u ∧ bt (w k) u = true ∧ WinS n o r (upd t k (bit u)) R ∧ (∀ u', u' < u → bt (w k) u' = true → ¬ WinS n o r (upd t k (bit u')) R) ∧ ∀ v, v < n → t' v = upd t k (bit u) v) ∧
    (¬ w k = 0 → ¬ bt R k = decide (owN o k = 0) → c = nI (low (bt (w k)) 12 0) ∧ ∀ v, v < n → t' v = t v)
theorem CS_ext {n k : Nat} {o r w t' ch ch' : Nat → Int32} {R c : Int32} {tws : Nat → Nat → Int32} (h : CS n o r w R tws ch k) (hs : St n o r w R k (tws k) t' c) (hch : ∀ j, j < k → ch' j = ch j) (hc : ch' k = c) : CS n o r w R (fun j => if j ≤ k then tws j else t') ch' (k + 1) := by
  obtain ⟨h0, h1⟩ := h
  refine ⟨fun v hv => ?_, fun j hj => ?_⟩
  · show (if 0 ≤ k then tws 0 else t') v = w v
    rw [if_pos (Nat.zero_le _)]; exact h0 v hv
  · show St n o r w R j (if j ≤ k then tws j else t') (if j + 1 ≤ k then tws (j + 1) else t') (ch' j)
    by_cases e : j = k
    · subst e; rw [if_pos (Nat.le_refl _), if_neg (by omega), hc]; exact hs
    · rw [if_pos (show j ≤ k by omega), if_pos (show j + 1 ≤ k by omega), hch j (by omega)]; exact h1 j (by omega)
theorem cho_uniq {n : Nat} {o r w ch ch' : Nat → Int32} (V : VF n o r w) (h : ChoS n o r w ch) (h' : ChoS n o r w ch') : ∀ v, v < n → ch v = ch' v := by
  obtain ⟨R, tws, hR, c0, c⟩ := h
  obtain ⟨R', tws', hR', d0, d⟩ := h'
  obtain rfl := win_uniq V hR hR'
  have key : ∀ k, k ≤ n → (∀ v, v < n → tws k v = tws' k v) ∧ ∀ j, j < k → ch j = ch' j := by
    intro k
    induction k with
    | zero => exact fun _ => ⟨fun v hv => (c0 v hv).trans (d0 v hv).symm, fun j hj => by omega⟩
    | succ k ih =>
      intro hk
      obtain ⟨i1, i2⟩ := ih (by omega)
      obtain ⟨a1, a2, a3⟩ := c k (by omega)
      obtain ⟨b1, b2, b3⟩ := d k (by omega)
      have fin : (∀ v, v < n → tws (k + 1) v = tws' (k + 1) v) → ch k = ch' k → (∀ v, v < n → tws (k + 1) v = tws' (k + 1) v) ∧ ∀ j, j < k + 1 → ch j = ch' j := fun x y => ⟨x, fun j hj => by
        by_cases e : j = k
        · rw [e]; exact y
        · exact i2 j (by omega)⟩
      by_cases e : w k = 0
      · obtain ⟨a4, a5⟩ := a1 e
        obtain ⟨b4, b5⟩ := b1 e
        exact fin (fun v hv => (a5 v hv).trans ((i1 v hv).trans (b5 v hv).symm)) (a4.trans b4.symm)
      · by_cases e2 : bt R k = decide (owN o k = 0)
        · obtain ⟨u, u1, u2, u3, u4, u5, u6⟩ := a2 e e2
          obtain ⟨x, x1, x2, x3, x4, x5, x6⟩ := b2 e e2
          have hup : ∀ z v, v < n → upd (tws k) k (bit z) v = upd (tws' k) k (bit z) v := fun z v hv => by
            unfold upd; split
            · rfl
            · exact i1 v hv
          have hux : u = x := by
            apply Classical.byContradiction
            intro hne
            rcases Nat.lt_or_gt_of_ne hne with hlt | hlt
            · exact x5 u hlt u3 (WinS_cong u4 (fun v hv => ⟨rfl, rfl, (hup u v hv).symm⟩))
            · exact u5 x hlt x3 (WinS_cong x4 (fun v hv => ⟨rfl, rfl, hup x v hv⟩))
          subst hux
          exact fin (fun v hv => (u6 v hv).trans ((hup u v hv).trans (x6 v hv).symm)) (u2.trans x2.symm)
        · obtain ⟨a4, a5⟩ := a3 e e2
          obtain ⟨b4, b5⟩ := b3 e e2
          exact fin (fun v hv => (a5 v hv).trans ((i1 v hv).trans (b5 v hv).symm)) (a4.trans b4.symm)
  exact fun v hv => (key n (Nat.le_refl _)).2 v hv
theorem low_spec (f : Nat → Bool) : ∀ j k, (f (low f j k) = true ∧ low f j k < k + j ∧ k ≤ low f j k) ∨ (low f j k = k + j ∧ ∀ i, k ≤ i → i < k + j → f i = false) := by
  intro j
  induction j with
  | zero => intro k; exact Or.inr ⟨rfl, fun i h1 h2 => by omega⟩
  | succ j ih =>
    intro k
    show (f (if f k = true then k else low f j (k + 1)) = true ∧ (if f k = true then k else low f j (k + 1)) < k + (j + 1) ∧ k ≤ (if f k = true then k else low f j (k + 1))) ∨ ((if f k = true then k else low f j (k + 1)) = k + (j + 1) ∧ ∀ i, k ≤ i → i < k + (j + 1) → f i = false)
    by_cases e : f k = true
    · rw [if_pos e]; exact Or.inl ⟨e, by omega, by omega⟩
    · rw [if_neg e]
      rcases ih (k + 1) with ⟨h1, h2, h3⟩ | ⟨h1, h2⟩
      · exact Or.inl ⟨h1, by omega, by omega⟩
      · refine Or.inr ⟨by omega, fun i h3 h4 => ?_⟩
        by_cases ei : i = k
        · rw [ei]; exact bf e
        · exact h2 i (by omega) (by omega)
theorem low_bt {n : Nat} {x : Int32} (hn : n ≤ 12) (hs : Sub n x) (h0 : ¬ x = 0) : bt x (low (bt x) 12 0) = true ∧ low (bt x) 12 0 < n := by
  rcases low_spec (bt x) 12 0 with ⟨h1, h2, -⟩ | ⟨h1, h2⟩
  · exact ⟨h1, hs.lt h1⟩
  · obtain ⟨i, hi, hb⟩ := bt_ne h0
    have := hs.lt hb
    rw [h2 i (by omega) (by omega)] at hb
    exact absurd hb (by decide)
/-- a choice is a way, or there is none -/
theorem cho_rng {n : Nat} {o r w ch : Nat → Int32} (V : VF n o r w) (h : ChoS n o r w ch) : ∀ v, v < n → (w v = 0 ∧ ch v = -4) ∨ (¬ w v = 0 ∧ ∃ u, u < n ∧ ch v = nI u ∧ bt (w v) u = true) := by
  obtain ⟨R, tws, hR, c0, c⟩ := h
  intro v hv
  obtain ⟨a1, a2, a3⟩ := c v hv
  by_cases e : w v = 0
  · exact Or.inl ⟨e, (a1 e).1⟩
  · refine Or.inr ⟨e, ?_⟩
    by_cases e2 : bt R v = decide (owN o v = 0)
    · obtain ⟨u, u1, u2, u3, -⟩ := a2 e e2
      exact ⟨u, u1, u2, u3⟩
    · obtain ⟨l1, l2⟩ := low_bt V.1 (V.2 v hv).2.2 e
      exact ⟨_, l2, (a3 e e2).1, l1⟩
def CI (n : Nat) (o r w : Nat → Int32) (R : Int32) (k : Nat) (tw ch : Nat → Int32) : Prop := ∃ tws, CS n o r w R tws ch k ∧ WinS n o r (tws k) R ∧ (∀ v, v < n → k ≤ v → tws k v = w v) ∧ (∀ v, v < n → Sub n (tws k v)) ∧ (∀ v, v < n → tw v = tws k v)
theorem CI_0 {n : Nat} {o r w tw ch : Nat → Int32} {R : Int32} (V : VF n o r w) (hR : WinS n o r w R) (h : ∀ v, v < n → tw v = w v) : CI n o r w R 0 tw ch :=
  ⟨fun _ => w, ⟨fun _ _ => rfl, fun k hk => absurd hk (Nat.not_lt_zero _)⟩, hR, fun _ _ _ => rfl, fun v hv => (V.2 v hv).2.2, h⟩
theorem CI_keep {n k : Nat} {o r w tw ch ch' : Nat → Int32} {R : Int32} (h : CI n o r w R k tw ch) (hch : ∀ j, j < k → ch' j = ch j) (hc : (w k = 0 ∧ ch' k = -4) ∨ (¬ w k = 0 ∧ ¬ bt R k = decide (owN o k = 0) ∧ ch' k = nI (low (bt (w k)) 12 0))) : CI n o r w R (k + 1) tw ch' := by
  obtain ⟨tws, h1, h2, h3, h4, h5⟩ := h
  have e : (fun j => if j ≤ k then tws j else tws k) (k + 1) = tws k := if_neg (show ¬ k + 1 ≤ k by omega)
  refine ⟨fun j => if j ≤ k then tws j else tws k, CS_ext h1 (c := ch' k) ⟨fun h0 => ?_, fun h0 hb => ?_, fun h0 hb => ?_⟩ hch rfl, by rw [e]; exact h2, fun v hv hkv => by rw [e]; exact h3 v hv (by omega), fun v hv => by rw [e]; exact h4 v hv, fun v hv => by rw [e]; exact h5 v hv⟩
  · rcases hc with ⟨-, c2⟩ | ⟨c1, -, -⟩
    · exact ⟨c2, fun _ _ => rfl⟩
    · exact absurd h0 c1
  · rcases hc with ⟨c1, -⟩ | ⟨-, c2, -⟩
    · exact absurd c1 h0
    · exact absurd hb c2
  · rcases hc with ⟨c1, -⟩ | ⟨-, -, c2⟩
    · exact absurd c1 h0
    · exact ⟨c2, fun _ _ => rfl⟩
theorem bit_sub {n u : Nat} (hn : n ≤ 12) (hu : u < n) : Sub n (bit u) := Sub.bit hu (by omega)
/-- the next choice that is settled -/
theorem CI_set {n k : Nat} {o r w tw ch : Nat → Int32} {R : Int32} (hn : n ≤ 12) (hk : k < n) (h : CI n o r w R k tw ch) (h0 : ¬ w k = 0) (hb : bt R k = decide (owN o k = 0)) :
    ∃ t u, u < n ∧ bt (w k) u = true ∧ (∀ v, v < n → Sub n (t v)) ∧ (∀ v, v < n → tw v = t v) ∧ WinS n o r (upd t k (bit u)) R ∧ (∀ u', u' < u → bt (w k) u' = true → ¬ WinS n o r (upd t k (bit u')) R) ∧
      ∀ tw' ch', (∀ v, v < n → tw' v = upd t k (bit u) v) → (∀ j, j < k → ch' j = ch j) → ch' k = nI u → CI n o r w R (k + 1) tw' ch' := by
  obtain ⟨tws, h1, h2, h3, h4, h5⟩ := h
  obtain ⟨u0, u1, u2, u3⟩ := cho_ex hn h2 hk hb
  rw [h3 k hk (Nat.le_refl _)] at u2
  obtain ⟨u, ⟨q1, q2, q3⟩, q4⟩ := least_nat (Q := fun u => u < n ∧ bt (w k) u = true ∧ WinS n o r (upd (tws k) k (bit u)) R) ⟨u1, u2, u3⟩
  have q5 : ∀ u', u' < u → bt (w k) u' = true → ¬ WinS n o r (upd (tws k) k (bit u')) R := fun u' a b c => q4 u' a ⟨by omega, b, c⟩
  refine ⟨tws k, u, q1, q2, h4, h5, q3, q5, fun tw' ch' g1 g2 g3 => ?_⟩
  have e : (fun j => if j ≤ k then tws j else upd (tws k) k (bit u)) (k + 1) = upd (tws k) k (bit u) := if_neg (show ¬ k + 1 ≤ k by omega)
  refine ⟨fun j => if j ≤ k then tws j else upd (tws k) k (bit u), CS_ext h1 (c := nI u) ⟨fun h => absurd h h0, fun _ _ => ⟨u, q1, rfl, q2, q3, q5, fun _ _ => rfl⟩, fun _ h => absurd hb h⟩ g2 g3, by rw [e]; exact q3, fun v hv hkv => by rw [e, upd_n (by omega)]; exact h3 v hv (by omega), fun v hv => ?_, fun v hv => by rw [e]; exact g1 v hv⟩
  rw [e]
  by_cases ev : v = k
  · rw [ev, upd_s]; exact bit_sub hn q1
  · rw [upd_n ev]; exact h4 v hv
