/-! what the law does: the class and the law's rows go side by side -/
def LW (n : Nat) (S : XS) (g w r e : Nat → Int32) : Prop := n ≤ 8 ∧ g 0 = nI n ∧ RS n S ∧ S.2.1 13 = 0 ∧ ∀ k, k < n → w k = S.2.2 0 k ∧ r k = S.2.2 1 k ∧ e k = S.2.2 2 k
abbrev LT : Type := Int32 × XS × (Nat → Int32) × (Nat → Int32) × (Nat → Int32) × (Nat → Int32)
def OkA (A : Option LT) : Prop := ∃ S g w r e n, A = some (1, S, g, w, r, e) ∧ LW n S g w r e
theorem ok_c {b : Bool} {k : Option LT} (hb : b = true) (h : OkA k) : OkA (chk b k) := by rw [chk_t hb]; exact h
theorem ok_b {α : Type} {x : Option α} {f : α → Option LT} {q : α} (hx : x = some q) (h : OkA (f q)) : OkA (Option.bind x f) := by rw [hx]; exact h
theorem ok_i {c : Prop} {i : Decidable c} {a b : Option LT} (hc : c) (h : OkA a) : OkA (ite c a b) := by rw [if_pos hc]; exact h
theorem ok_e {c : Prop} {i : Decidable c} {a b : Option LT} (hc : ¬ c) (h : OkA b) : OkA (ite c a b) := by rw [if_neg hc]; exact h
theorem ok_sm {β : Type} {X : Option (LT ⊕ β)} {f : β → Option LT} (h : (∃ a, X = some (.inl a) ∧ OkA (some a)) ∨ (∃ b, X = some (.inr b) ∧ OkA (f b))) : OkA (Option.bind X (fun q => sm q some f)) := by
  rcases h with ⟨a, h1, h2⟩ | ⟨b, h1, h2⟩
  · rw [h1]; exact h2
  · rw [h1]; exact h2
theorem ok_sm2 {β : Type} {X : Option (LT ⊕ β)} {f : β → Option LT} (c : Prop) (b0 : β) (h : (∃ a, X = some (.inl a) ∧ OkA (some a)) ∨ (X = some (.inr b0) ∧ c)) (hr : c → OkA (f b0)) : OkA (Option.bind X (fun q => sm q some f)) := by
  rcases h with ⟨a, h1, h2⟩ | ⟨h1, h2⟩
  · rw [h1]; exact h2
  · rw [h1]; exact hr h2
theorem ok_r {S : XS} {g w r e : Nat → Int32} {n : Nat} (h : LW n S g w r e) : OkA (some (1, S, g, w, r, e)) := ⟨S, g, w, r, e, n, rfl, h⟩
theorem p_low {N c : Nat} (x : Int32) (h0 : 0 < c) (hc : c < 2 ^ 31) : ∃ v, v < c ∧ f_L_low N x (nI c) = some (nI v) := by
  obtain ⟨j, hj, e⟩ := pk_andE x (m := 2147483647) 31 (by decide)
  refine ⟨j % c, Nat.mod_lt _ h0, ?_⟩
  have hne : ¬ nI c = 0 := nI_ne0 h0 hc
  simp only [f_L_low, chk_t (decide_eq_true hne), e, pk_rem hj h0 hc]
theorem dr_eq {k : Nat} {x : Int32} (hk : k < 12) : ((x &&& (((1 : Int32) <<< (nI k &&& 31)) - 1)) ||| ((x >>> (nI (k + 1) &&& 31)) <<< (nI k &&& 31))) = dr k x := by
  apply b_ext
  intro i hi
  unfold dr
  rw [b_or, b_or, b_and, b_and, bt_not _ hi, bt_all k (by omega) i hi, b_shl k (by omega) _ hi, show bt (x >>> ((1 : Int32) &&& 31)) i = _ from b_sshr 1 (by omega) x hi]
  by_cases h : i < k
  · have : ¬ k ≤ i := by omega
    simp [h, this]
  · have h2 : k ≤ i := by omega
    rw [b_sshr (k + 1) (by omega) x (show i - k < 32 by omega), show k + 1 + (i - k) = 1 + i from by omega]
    simp [h, h2]
theorem p_l336 {N n k : Nat} {g w r e : Nat → Int32} (hN : 14 ≤ N) (hn : n ≤ 12) (hk : k < n) (hg : g 0 = nI (n - 1)) :
    ∃ t : (Nat → Int32) × (Nat → Int32) × (Nat → Int32), f_L_acts_L336 N (nI k) g N 0 w r e = some t ∧ ∀ j, j < n - 1 → t.1 j = w (sk k j) ∧ t.2.1 j = r (sk k j) ∧ t.2.2 j = e (sk k j) := by
  obtain ⟨t, e1, e2⟩ := for_inv (fun m j (t : (Nat → Int32) × (Nat → Int32) × (Nat → Int32)) => f_L_acts_L336 N (nI k) g m j t.1 t.2.1 t.2.2) (n - 1)
    (fun c t => (∀ j, j < c → t.1 j = w (sk k j) ∧ t.2.1 j = r (sk k j) ∧ t.2.2 j = e (sk k j)) ∧ ∀ j, c ≤ j → t.1 j = w j ∧ t.2.1 j = r j ∧ t.2.2 j = e j)
    (fun t => ∀ j, j < n - 1 → t.1 j = w (sk k j) ∧ t.2.1 j = r (sk k j) ∧ t.2.2 j = e (sk k j))
    (fun m t ht => ⟨t, by simp only [f_L_acts_L336, chk_t g01, c00, hg]; rw [if_pos (Int32.le_refl _)], ht.1⟩)
    (fun m c t hc ht => Or.inr ⟨(upd t.1 c (t.1 (sk k c)), upd t.2.1 c (t.2.1 (sk k c)), upd t.2.2 c (t.2.2 (sk k c))), by
      have k1 : ¬ nI (n - 1) ≤ nI c := nI_ge (by omega) (by omega)
      have hs : sk k c < 12 := by unfold sk; split <;> omega
      have hif : (if nI k ≤ nI c then some (nI (c + 1)) else some (nI c)) = some (nI (sk k c)) := by
        unfold sk
        by_cases h : c < k
        · rw [if_neg (nI_ge h (by omega)), if_pos h]
        · rw [if_pos (nI_le (by omega) (by omega)), if_neg h]
      simp only [f_L_acts_L336, chk_t g01, c00, hg, if_neg k1, hif, Option.bind_some, chk_t (gi_ok hs (by omega)), chk_t (gi_ok (show c < 12 by omega) (by omega)), nI_clamp (show c < 2 ^ 31 by omega), nI_clamp (show sk k c < 2 ^ 31 by omega), nI_1], fun j hj => by
      by_cases ej : j = c
      · subst ej
        have : j ≤ sk k j := by unfold sk; split <;> omega
        obtain ⟨a1, a2, a3⟩ := ht.2 (sk k j) this
        exact ⟨by show upd _ j _ j = _; rw [upd_s]; exact a1, by show upd _ j _ j = _; rw [upd_s]; exact a2, by show upd _ j _ j = _; rw [upd_s]; exact a3⟩
      · obtain ⟨a1, a2, a3⟩ := ht.1 j (by omega)
        exact ⟨by show upd _ c _ j = _; rw [upd_n ej]; exact a1, by show upd _ c _ j = _; rw [upd_n ej]; exact a2, by show upd _ c _ j = _; rw [upd_n ej]; exact a3⟩, fun j hj => by
      obtain ⟨a1, a2, a3⟩ := ht.2 j (by omega)
      exact ⟨by show upd _ c _ j = _; rw [upd_n (by omega)]; exact a1, by show upd _ c _ j = _; rw [upd_n (by omega)]; exact a2, by show upd _ c _ j = _; rw [upd_n (by omega)]; exact a3⟩⟩)
    0 N (w, r, e) (by omega) (by omega) ⟨fun j hj => by omega, fun _ _ => ⟨rfl, rfl, rfl⟩⟩
  exact ⟨t, e1, e2⟩
theorem p_l397 {N n k : Nat} {g e : Nat → Int32} (hN : 14 ≤ N) (hn : n ≤ 12) (hk : k < n) (hg : g 0 = nI (n - 1)) : ∃ t, f_L_acts_L397 N (nI k) g N 0 e = some t ∧ ∀ j, j < n - 1 → t j = dr k (e j) := by
  obtain ⟨t, e1, e2⟩ := for_inv (fun m j (t : Nat → Int32) => f_L_acts_L397 N (nI k) g m j t) (n - 1)
    (fun c t => (∀ j, j < c → t j = dr k (e j)) ∧ ∀ j, c ≤ j → t j = e j) (fun t => ∀ j, j < n - 1 → t j = dr k (e j))
    (fun m t ht => ⟨t, by simp only [f_L_acts_L397, chk_t g01, c00, hg]; rw [if_pos (Int32.le_refl _)], ht.1⟩)
    (fun m c t hc ht => Or.inr ⟨upd t c (dr k (t c)), by
      have k1 : ¬ nI (n - 1) ≤ nI c := nI_ge (by omega) (by omega)
      simp only [f_L_acts_L397, chk_t g01, c00, hg, if_neg k1, chk_t (gi_ok (show c < 12 by omega) (by omega)), nI_clamp (show c < 2 ^ 31 by omega), nI_1, dr_eq (show k < 12 by omega)], fun j hj => by
      by_cases ej : j = c
      · rw [ej, upd_s, ht.2 c (Nat.le_refl _)]
      · rw [upd_n ej]; exact ht.1 j (by omega), fun j hj => by rw [upd_n (by omega)]; exact ht.2 j (by omega)⟩)
    0 N e (by omega) (by omega) ⟨fun j hj => by omega, fun _ _ => rfl⟩
  exact ⟨t, e1, e2⟩
/-! each thing that is done -/
section DONE
variable {N n k : Nat} {S : XS} {g w r e : Nat → Int32}
theorem d_add {i j : Nat} (hN : 100 ≤ N) (h : LW n S g w r e) (h8 : n < 8) (hi : i < 2) (hj : j < 6) : ∃ S2, x_add N (nI i) (nI j) S = some (nI n, S2) ∧ LW (n + 1) S2 (upd g 0 (nI n + 1)) (upd w n (nI i)) (upd r n (nI j)) (upd e n 0) := by
  obtain ⟨hn, hg, hS, hT, hq⟩ := h
  obtain ⟨S2, a1, a2, a3, b1, b2, b3⟩ := q_add (N := N) (by omega) hS (by omega) hi hj
  refine ⟨S2, a1, by omega, by rw [upd_s, nI_1], a2, by rw [a3.1]; exact hT, fun u hu => ?_⟩
  rw [b1, b2, b3]
  by_cases eu : u = n
  · subst eu; simp only [upd_s, and_self]
  · rw [upd_n eu, upd_n eu, upd_n eu, upd_n eu, upd_n eu, upd_n eu]; exact hq u (by omega)
theorem d_own {i : Nat} (hN : 100 ≤ N) (h : LW n S g w r e) (hk : k < n) (hi : i < 2) : ∃ S2, x_own N (nI k) (nI i) S = some (w k, S2) ∧ LW n S2 g (upd w k (nI i)) r e := by
  obtain ⟨hn, hg, hS, hT, hq⟩ := h
  obtain ⟨S2, a1, a2, a3, b1, b2, b3⟩ := q_own (N := N) (by omega) hS hk hi
  refine ⟨S2, by rw [(hq k hk).1]; exact a1, hn, hg, a2, by rw [a3.1]; exact hT, fun u hu => ?_⟩
  rw [b1, b2, b3]
  refine ⟨?_, (hq u hu).2.1, (hq u hu).2.2⟩
  by_cases eu : u = k
  · rw [eu, upd_s, upd_s]
  · rw [upd_n eu, upd_n eu]; exact (hq u hu).1
theorem d_rank {i : Nat} (hN : 100 ≤ N) (h : LW n S g w r e) (hk : k < n) (hi : i < 6) : ∃ S2, x_rank N (nI k) (nI i) S = some (r k, S2) ∧ LW n S2 g w (upd r k (nI i)) e := by
  obtain ⟨hn, hg, hS, hT, hq⟩ := h
  obtain ⟨S2, a1, a2, a3, b1, b2, b3⟩ := q_rank (N := N) (by omega) hS hk hi
  refine ⟨S2, by rw [(hq k hk).2.1]; exact a1, hn, hg, a2, by rw [a3.1]; exact hT, fun u hu => ?_⟩
  rw [b1, b2, b3]
  refine ⟨(hq u hu).1, ?_, (hq u hu).2.2⟩
  by_cases eu : u = k
  · rw [eu, upd_s, upd_s]
  · rw [upd_n eu, upd_n eu]; exact (hq u hu).2.1
theorem d_way0 {i : Nat} (h : LW n S g w r e) (hk : k < n) (hi : i < n) (hb : bt (e k) i = true) : ∃ S2, x_way N (nI k) (nI i) 1 S = some (-2, S2) ∧ LW n S2 g w r e := by
  obtain ⟨hn, hg, hS, hT, hq⟩ := h
  obtain ⟨S2, a1, a2, a3, b1, b2, b3⟩ := q_way0 (N := N) (i := 1) hS hk hi (by omega) (by rw [← (hq k hk).2.2, hb]; simp)
  exact ⟨S2, a1, hn, hg, a2, by rw [a3.1]; exact hT, fun u hu => by rw [b1, b2, b3]; exact hq u hu⟩
theorem d_way1 {i : Nat} (hN : 100 ≤ N) (h : LW n S g w r e) (hk : k < n) (hi : i < n) : ∃ S2 c, x_way N (nI k) (nI i) (1 - (if bt (e k) i = true then 1 else 0)) S = some (c, S2) ∧ f_L_ones N (e k ^^^ (1 <<< (nI i &&& 31))) = some c ∧ LW n S2 g w r (upd e k (e k ^^^ (1 <<< (nI i &&& 31)))) := by
  obtain ⟨hn, hg, hS, hT, hq⟩ := h
  have hb : ∃ b, b < 2 ∧ (1 - (if bt (e k) i = true then (1 : Int32) else 0)) = nI b ∧ ¬ (bt (e k) i = true ↔ b = 1) := by
    by_cases hb : bt (e k) i = true
    · exact ⟨0, by omega, by rw [if_pos hb]; rfl, by simp [hb]⟩
    · exact ⟨1, by omega, by rw [if_neg hb]; rfl, by simp [hb]⟩
  obtain ⟨b, hb2, hb3, hb4⟩ := hb
  obtain ⟨q1, q2, q3⟩ := hq k hk
  obtain ⟨S2, a1, a2, a3, b1, b2, b3⟩ := q_way1 (N := N) (i := b) (by omega) hS hk hi hb2 (by rw [← q3]; exact hb4)
  rw [← hb3, ← q3] at a1
  rw [← q3] at b3
  have hsub : Sub n (e k ^^^ (1 <<< (nI i &&& 31))) := fun u hu1 hu2 => by
    rw [b_xor, q3, (hS.2.1.2 k hk).2.2 u hu1 hu2, Sub.bit hi (by omega) u hu1 hu2]; rfl
  refine ⟨S2, _, a1, p_ones (N := N) (by omega) (hsub.mono (by omega)), hn, hg, a2, by rw [a3.1]; exact hT, fun u hu => ?_⟩
  rw [b1, b2, b3]
  refine ⟨(hq u hu).1, (hq u hu).2.1, ?_⟩
  by_cases eu : u = k
  · rw [eu, upd_s, upd_s]
  · rw [upd_n eu, upd_n eu]; exact (hq u hu).2.2
theorem d_drop {t : (Nat → Int32) × (Nat → Int32) × (Nat → Int32)} {e2 : Nat → Int32} (hN : 100 ≤ N) (h : LW n S g w r e) (hk : k < n) (ht : ∀ j, j < n - 1 → t.1 j = w (sk k j) ∧ t.2.1 j = r (sk k j) ∧ t.2.2 j = e (sk k j)) (he : ∀ j, j < n - 1 → e2 j = dr k (t.2.2 j)) :
    ∃ S2, x_drop N (nI k) S = some (nI (n - 1), S2) ∧ LW (n - 1) S2 (upd g 0 (nI (n - 1))) t.1 t.2.1 e2 := by
  obtain ⟨hn, hg, hS, hT, hq⟩ := h
  obtain ⟨S2, a1, a2, a3, b1⟩ := q_drop (N := N) (by omega) hS hk
  refine ⟨S2, a1, by omega, upd_s, a2, by rw [a3.1]; exact hT, fun u hu => ?_⟩
  obtain ⟨c1, c2, c3⟩ := b1 u hu
  obtain ⟨d1, d2, d3⟩ := ht u hu
  obtain ⟨f1, f2, f3⟩ := hq (sk k u) (sk_lt hk hu)
  exact ⟨by rw [d1, f1, c1], by rw [d2, f2, c2], by rw [he u hu, d3, f3, c3]⟩
end DONE
