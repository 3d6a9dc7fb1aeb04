/-! the class's solver, by certificates -/
theorem or_loop (F : Nat → Int32 → Int32 → Option Int32) (n : Nat) (c : Nat → Bool) (he : ∀ m a, F (m + 1) a (nI n) = some a) (hn : n ≤ 12)
    (hs : ∀ m a k, k < n → F (m + 1) a (nI k) = F m (if c k = true then a ||| (1 <<< (nI k &&& 31)) else a) (nI (k + 1))) (a : Int32) (m : Nat) (hm : n < m) :
    ∃ x, F m a 0 = some x ∧ ∀ i, i < 32 → bt x i = (bt a i || (decide (i < n) && c i)) := by
  obtain ⟨b, h1, h2⟩ := for_inv (fun m k a => F m a k) n (fun k (x : Int32) => ∀ i, i < 32 → bt x i = (bt a i || (decide (i < k) && c i))) (fun x => ∀ i, i < 32 → bt x i = (bt a i || (decide (i < n) && c i)))
    (fun m s h => ⟨s, he m s, h⟩)
    (fun m k s hk h => Or.inr ⟨_, hs m s k hk, fun i hi => by
      by_cases hc : c k = true
      · rw [if_pos hc, b_or, bt_bit (by omega) hi, h i hi]
        by_cases e : i = k
        · subst e; simp [hc]
        · have : decide (i < k + 1) = decide (i < k) := by simp; omega
          rw [this]; simp [e]
      · rw [if_neg hc, h i hi]
        by_cases e : i = k
        · subst e; simp [bf hc]
        · have : decide (i < k + 1) = decide (i < k) := by simp; omega
          rw [this]⟩)
    0 m a (Nat.zero_le _) (by omega) (fun i hi => by simp)
  exact ⟨b, h1, h2⟩
theorem idx {k n : Nat} (h : k < n) (hn : n ≤ 12) : ¬ nI n ≤ nI k ∧ gi (nI k) 12 = true ∧ Int32.toNatClampNeg (nI k) = k ∧ nI k + 1 = nI (k + 1) :=
  ⟨nI_ge h (by omega), gi_ok (by omega) (by omega), nI_clamp (by omega), nI_1 k⟩
theorem p_endsOf {N n : Nat} {o w : Nat → Int32} {i : Int32} (hN : 13 ≤ N) (hn : n ≤ 12) : ∃ x, f_X0_endsOf N i o w (nI n) = some x ∧ ∀ b, b < 32 → bt x b = (decide (b < n) && (decide (w b = 0) && decide (o b = i))) := by
  obtain ⟨x, h1, h2⟩ := or_loop (fun m a k => f_X0_endsOf_L4 N i o w (nI n) m a k) n (fun k => decide (w k = 0) && decide (o k = i)) (fun m a => by simp only [f_X0_endsOf_L4]; rw [if_pos (Int32.le_refl _)]) hn (fun m a k hk => by
    obtain ⟨k1, k2, k3, k4⟩ := idx hk hn
    simp only [f_X0_endsOf_L4, if_neg k1, chk_t k2, k3, k4]
    by_cases e1 : w k = 0
    · by_cases e2 : o k = i
      · simp [e1, e2]
      · simp [e1, e2]
    · simp [e1]) 0 N (by omega)
  refine ⟨x, ?_, fun b hb => by rw [h2 b hb, b_0]; rfl⟩
  simp only [f_X0_endsOf]
  rw [h1]; rfl
theorem p_ranked {N n : Nat} {r : Nat → Int32} {i : Int32} (hN : 13 ≤ N) (hn : n ≤ 12) : ∃ x, f_X0_ranked N i r (nI n) = some x ∧ ∀ b, b < 32 → bt x b = (decide (b < n) && decide (r b = i)) := by
  obtain ⟨x, h1, h2⟩ := or_loop (fun m a k => f_X0_ranked_L4 N i r (nI n) m a k) n (fun k => decide (r k = i)) (fun m a => by simp only [f_X0_ranked_L4]; rw [if_pos (Int32.le_refl _)]) hn (fun m a k hk => by
    obtain ⟨k1, k2, k3, k4⟩ := idx hk hn
    simp only [f_X0_ranked_L4, if_neg k1, chk_t k2, k3, k4]
    by_cases e1 : r k = i
    · simp [e1]
    · simp [e1]) 0 N (by omega)
  refine ⟨x, ?_, fun b hb => by rw [h2 b hb, b_0]; rfl⟩
  simp only [f_X0_ranked]
  rw [h1]; rfl
/-- pulled by one step -/
def po (pl region arena : Int32) (o w : Nat → Int32) (b : Nat) : Bool := bt (arena &&& (region ^^^ (-1))) b && (decide (¬ ((w b &&& arena) &&& region) = 0) && (decide (o b = pl) || decide (((w b &&& arena) &&& region) = (w b &&& arena))))
theorem and_bit0 {x : Int32} {k : Nat} (hk : k < 32) : (x &&& (1 <<< (nI k &&& 31))) = 0 ↔ bt x k = false := by
  rw [bt_zero]
  constructor
  · intro h
    have := h k hk
    rw [b_and, bt_bit hk hk] at this
    simpa using this
  · intro h i hi
    rw [b_and, bt_bit hk hi]
    by_cases e : i = k
    · rw [e, h]; rfl
    · simp [e]
theorem p_pullOnce {N n : Nat} {pl region arena : Int32} {o w : Nat → Int32} (hN : 13 ≤ N) (hn : n ≤ 12) : ∃ x, f_X1_pullOnce N pl region arena o w (nI n) = some x ∧ ∀ b, b < 32 → bt x b = (bt region b || (decide (b < n) && po pl region arena o w b)) := by
  obtain ⟨x, h1, h2⟩ := or_loop (fun m a k => f_X1_pullOnce_L6 N pl region arena o w (nI n) m a k) n (po pl region arena o w) (fun m a => by simp only [f_X1_pullOnce_L6]; rw [if_pos (Int32.le_refl _)]) hn (fun m a k hk => by
    obtain ⟨k1, k2, k3, k4⟩ := idx hk hn
    simp only [f_X1_pullOnce_L6, if_neg k1, chk_t k2, k3, k4, and_bit0 (show k < 32 by omega)]
    unfold po
    generalize bt (arena &&& (region ^^^ (-1))) k = z0
    by_cases e0 : z0 = true
    · by_cases e1 : ((w k &&& arena) &&& region) = 0
      · simp [e0, e1]
      · by_cases e2 : o k = pl
        · simp [e0, e1, e2]
        · by_cases e3 : ((w k &&& arena) &&& region) = (w k &&& arena)
          · rw [e3] at e1
            simp [e0, e1, e2, e3]
          · simp [e0, e1, e2, e3]
    · simp [e0]) region N (by omega)
  refine ⟨x, ?_, h2⟩
  simp only [f_X1_pullOnce]
  show Option.bind (f_X1_pullOnce_L6 N pl region arena o w (nI n) N region 0) _ = _
  rw [h1]; rfl
/-- owners, ranks and ways as numbers -/
def owN (o : Nat → Int32) (v : Nat) : Nat := if o v = 0 then 0 else 1
def rkN (r : Nat → Int32) (v : Nat) : Nat := (r v).toNatClampNeg
def wyB (w : Nat → Int32) (v u : Nat) : Bool := bt (w v) u
def VF (n : Nat) (o r w : Nat → Int32) : Prop := n ≤ 12 ∧ ∀ k, k < n → (o k = 0 ∨ o k = 1) ∧ (r k = nI (rkN r k) ∧ rkN r k < 6) ∧ Sub n (w k)
theorem owN_lt {o : Nat → Int32} {v : Nat} : owN o v = 0 ∨ owN o v = 1 := by unfold owN; split <;> simp
theorem owN_eq {o : Nat → Int32} {v i : Nat} (h : o v = 0 ∨ o v = 1) (hi : i < 2) : o v = nI i ↔ owN o v = i := by
  unfold owN
  rcases h with h | h <;> rw [h] <;> rcases (show i = 0 ∨ i = 1 by omega) with rfl | rfl <;> decide
theorem and3 (a b c : Int32) (i : Nat) : bt ((a &&& b) &&& c) i = (bt a i && bt b i && bt c i) := by rw [b_and, b_and]
theorem p_pull {N n i : Nat} {set arena : Int32} {o w : Nat → Int32} (hN : 13 ≤ N) (hn : n ≤ 12) (hi : i < 2) (ho : ∀ k, k < n → o k = 0 ∨ o k = 1) (hA : Sub n arena) (hs : ∀ b, bt set b = true → bt arena b = true) :
    ∃ X l, f_X1_pull N (nI i) set arena o w (nI n) = some X ∧ Sub n X ∧ PullS i n (owN o) (wyB w) (bt arena) (bt set) (bt X) l := by
  obtain ⟨X, h1, h2⟩ := for_inv (fun m k a => f_X1_pull_L6 N (nI i) arena o w (nI n) m a k) 12
    (fun k (x : Int32) => (∀ b, bt set b = true → bt x b = true) ∧ (∀ b, bt x b = true → bt arena b = true) ∧ k ≤ cn (bt x) n ∧ ∃ l : Nat → Nat, (∀ v, v < n → bt x v = true → l v ≤ k) ∧
      ∀ v, v < n → bt x v = true → bt set v = false → 1 ≤ l v ∧ (owN o v = i → ∃ u, u < n ∧ wyB w v u = true ∧ bt x u = true ∧ l u < l v) ∧ (owN o v ≠ i → ∀ u, u < n → wyB w v u = true → bt arena u = true → bt x u = true ∧ l u < l v))
    (fun x => Sub n x ∧ ∃ l, PullS i n (owN o) (wyB w) (bt arena) (bt set) (bt x) l)
    (fun m x hI => by
      obtain ⟨a1, a2, a3, l, a4, a5⟩ := hI
      refine ⟨x, by simp only [f_X1_pull_L6]; rw [if_pos (by decide)], fun b h1 h2 => bf (fun h => by have := a2 b h; rw [hA b h1 h2] at this; cases this), l, fun v _ h => a1 v h, fun v hv h => ⟨a2 v h, a4 v hv h⟩, a5, fun v hv hav hxv => ?_⟩
      exfalso
      have h1 := cn_lt (f := bt x) (g := fun _ => true) (n := n) (k := v) (fun _ _ _ => rfl) hv hxv rfl
      have h2 := cn_le (fun _ => true) n
      omega)
    (fun m k x hk hI => by
      obtain ⟨a1, a2, a3, l, a4, a5⟩ := hI
      obtain ⟨y, e1, e2⟩ := p_pullOnce (N := N) (n := n) (pl := nI i) (region := x) (arena := arena) (o := o) (w := w) hN hn
      have hnl : ¬ (12 : Int32) ≤ nI k := nI_ge (b := 12) hk (by omega)
      have hxs : Sub n x := fun b h1 h2 => bf (fun h => by have := a2 b h; rw [hA b h1 h2] at this; cases this)
      have hys : Sub n y := fun b h1 h2 => by rw [e2 b h2, hxs b h1 h2]; simp; intro h; omega
      by_cases hyx : y = x
      · refine Or.inl ⟨x, by simp only [f_X1_pull_L6, if_neg hnl, e1, Option.bind_some, if_pos hyx], hxs, l, fun v _ h => a1 v h, fun v hv h => ⟨a2 v h, by have := a4 v hv h; omega⟩, a5, fun v hv hav hxv => ?_⟩
        have hp : po (nI i) x arena o w v = false := by
          have := e2 v (by omega)
          rw [hyx, hxv] at this
          simp [hv] at this
          exact this
        unfold po at hp
        have hq : bt (arena &&& (x ^^^ (-1))) v = true := by rw [b_and, bt_not x (by omega), hav, hxv]; rfl
        rw [hq, Bool.true_and] at hp
        by_cases z : ((w v &&& arena) &&& x) = 0
        · have z' := bt_zero.mp z
          have none : ∀ u, u < n → wyB w v u = true → bt x u = false := by
            intro u hu hw
            apply bf
            intro hxu
            have := z' u (by omega)
            rw [and3, show bt (w v) u = true from hw, a2 u hxu, hxu] at this
            cases this
          exact ⟨fun _ => none, fun _ => Or.inl (fun u hu hw _ => none u hu hw)⟩
        · have hp : (decide (o v = nI i) || decide (((w v &&& arena) &&& x) = (w v &&& arena))) = false := by simpa [z] using hp
          rw [Bool.or_eq_false_iff] at hp
          have hp1 : ¬ o v = nI i := of_decide_eq_false hp.1
          have hp2 := of_decide_eq_false hp.2
          refine ⟨fun h => absurd ((owN_eq (ho v hv) hi).mpr h) hp1, fun _ => Or.inr ?_⟩
          apply Classical.byContradiction
          intro hno
          apply hp2
          apply b_ext
          intro u hu
          rw [and3, b_and]
          cases hwu : bt (w v) u with
          | false => rfl
          | true =>
            cases hau : bt arena u with
            | false => rfl
            | true =>
              cases hxu : bt x u with
              | true => rfl
              | false => exact absurd ⟨u, hA.lt hau, hwu, hau, hxu⟩ hno
      · obtain ⟨l2, hl1, hl2⟩ : ∃ l2 : Nat → Nat, (∀ v, bt x v = true → l2 v = l v) ∧ (∀ v, bt x v = false → l2 v = k + 1) := ⟨fun v => if bt x v = true then l v else k + 1, fun v h => if_pos h, fun v h => if_neg (by rw [h]; simp)⟩
        refine Or.inr ⟨y, by simp only [f_X1_pull_L6, if_neg hnl, e1, Option.bind_some, if_neg hyx, nI_1], ?_, ?_, ?_, l2, ?_, ?_⟩
        · intro b hb
          have hl := (hxs.lt (a1 b hb))
          rw [e2 b (by omega), a1 b hb]; rfl
        · intro b hb
          have hl := hys.lt hb
          rw [e2 b (by omega)] at hb
          by_cases hxb : bt x b = true
          · exact a2 b hxb
          · rw [bf hxb] at hb
            have hb : (decide (b < n) && po (nI i) x arena o w b) = true := by simpa using hb
            have hb := (bat2 hb).2
            unfold po at hb
            have := (bat2 hb).1
            rw [b_and] at this
            exact (bat2 this).1
        · obtain ⟨b, hb, hxb, hyb⟩ : ∃ b, b < n ∧ bt x b = false ∧ bt y b = true := by
            apply Classical.byContradiction
            intro hno
            apply hyx
            apply ext_n hys hxs
            intro b hb
            cases hxb : bt x b with
            | true => rw [e2 b (by omega), hxb]; rfl
            | false => exact bf (fun h => hno ⟨b, hb, hxb, h⟩)
          have := cn_lt (f := bt x) (g := bt y) (n := n) (k := b) (fun u hu h => by rw [e2 u (by omega), h]; rfl) hb hxb hyb
          omega
        · intro v hv hyv
          by_cases hxv : bt x v = true
          · rw [hl1 v hxv]; have := a4 v hv hxv; omega
          · rw [hl2 v (bf hxv)]; exact Nat.le_refl _
        · intro v hv hyv hsv
          have hxy : ∀ u, u < n → bt x u = true → bt y u = true := fun u hu h => by rw [e2 u (by omega), h]; rfl
          by_cases hxv : bt x v = true
          · obtain ⟨z1, z2, z3⟩ := a5 v hv hxv hsv
            rw [hl1 v hxv]
            refine ⟨z1, fun h => ?_, fun h u hu hw hau => ?_⟩
            · obtain ⟨u, u1, u2, u3, u4⟩ := z2 h
              exact ⟨u, u1, u2, hxy u u1 u3, by rw [hl1 u u3]; exact u4⟩
            · obtain ⟨u3, u4⟩ := z3 h u hu hw hau
              exact ⟨hxy u hu u3, by rw [hl1 u u3]; exact u4⟩
          · have hxv := bf hxv
            rw [hl2 v hxv]
            have hp : po (nI i) x arena o w v = true := by
              have := e2 v (by omega)
              rw [hyv, hxv] at this
              simp [hv] at this
              exact this
            unfold po at hp
            obtain ⟨-, hp⟩ := bat2 hp
            obtain ⟨p1, p2⟩ := bat2 hp
            have p1 : ¬ ((w v &&& arena) &&& x) = 0 := of_decide_eq_true p1
            refine ⟨by omega, fun h => ?_, fun h u hu hw hau => ?_⟩
            · obtain ⟨u, hu, hb⟩ := bt_ne p1
              rw [and3] at hb
              obtain ⟨q1, q2⟩ := bat2 hb
              obtain ⟨q3, q4⟩ := bat2 q1
              have hun := hxs.lt q2
              exact ⟨u, hun, q3, hxy u hun q2, by rw [hl1 u q2]; have := a4 u hun q2; omega⟩
            · have p3 : ((w v &&& arena) &&& x) = (w v &&& arena) := by
                rcases Bool.or_eq_true_iff.mp p2 with q | q
                · exact absurd ((owN_eq (ho v hv) hi).mp (of_decide_eq_true q)) h
                · exact of_decide_eq_true q
              have hxu : bt x u = true := by
                have e : bt ((w v &&& arena) &&& x) u = bt (w v &&& arena) u := by rw [p3]
                rw [and3, b_and, show bt (w v) u = true from hw, hau] at e
                simpa using e
              exact ⟨hxy u hu hxu, by rw [hl1 u hxu]; have := a4 u hu hxu; omega⟩)
    0 N set (by omega) (by omega) ⟨fun b h => h, hs, Nat.zero_le _, fun _ => 0, fun _ _ _ => Nat.le_refl 0, fun v _ h1 h2 => by rw [h1] at h2; cases h2⟩
  obtain ⟨hX, l, hP⟩ := h2
  refine ⟨X, l, ?_, hX, hP⟩
  simp only [f_X1_pull]
  show Option.bind (f_X1_pull_L6 N (nI i) arena o w (nI n) N set (nI 0)) _ = _
  rw [h1]; rfl
