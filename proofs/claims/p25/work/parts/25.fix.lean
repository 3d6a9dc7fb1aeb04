/-! who wins by sets of ranks one within another -/
def Le (x y : Int32) : Prop := ∀ i, bt x i = true → bt y i = true
theorem Le.rf {x : Int32} : Le x x := fun _ h => h
theorem Le.anti {x y : Int32} (h1 : Le x y) (h2 : Le y x) : x = y := by
  apply b_ext
  intro i _
  cases h : bt x i with
  | true => exact (h1 i h).symm
  | false => exact (bf (fun h' => by rw [h2 i h'] at h; cases h)).symm
theorem bt_lt {x : Int32} {u : Nat} (h : bt x u = true) : u < 32 := by
  apply Classical.byContradiction
  intro hn
  rw [b_big (by omega)] at h; cases h
def sat (o w : Nat → Int32) (v : Nat) (goal : Int32) : Bool := if o v = 0 then decide (¬ (w v &&& goal) = 0) else decide ((w v &&& (goal ^^^ (-1))) = 0)
/-- a step of player p to P -/
def OKp (n p : Nat) (ow : Nat → Nat) (wy : Nat → Nat → Bool) (v : Nat) (P : Nat → Prop) : Prop := (ow v = p → ∃ u, u < n ∧ wy v u = true ∧ P u) ∧ (ow v ≠ p → ∀ u, u < n → wy v u = true → P u)
theorem OKp.imp {n p : Nat} {ow : Nat → Nat} {wy : Nat → Nat → Bool} {v : Nat} {P Q : Nat → Prop} (h : OKp n p ow wy v P) (k : ∀ u, u < n → P u → Q u) : OKp n p ow wy v Q :=
  ⟨fun e => by obtain ⟨u, h1, h2, h3⟩ := h.1 e; exact ⟨u, h1, h2, k u h1 h3⟩, fun e u hu hw => k u hu (h.2 e u hu hw)⟩
theorem sat0 {n : Nat} {o w : Nat → Int32} {v : Nat} {goal : Int32} (hs : Sub n (w v)) (h : OKp n 0 (owN o) (wyB w) v (fun u => bt goal u = true)) : sat o w v goal = true := by
  unfold sat
  by_cases e : o v = 0
  · rw [if_pos e]
    obtain ⟨u, h1, h2, h3⟩ := h.1 (by unfold owN; rw [if_pos e])
    apply decide_eq_true
    intro h0
    have := bt_zero.mp h0 u (bt_lt h3)
    rw [b_and, show bt (w v) u = true from h2, h3] at this
    cases this
  · rw [if_neg e]
    apply decide_eq_true
    rw [bt_zero]
    intro u hu
    rw [b_diff hu]
    cases h1 : bt (w v) u with
    | false => rfl
    | true => rw [h.2 (by unfold owN; rw [if_neg e]; decide) u (hs.lt h1) h1]; rfl
theorem sat1 {n : Nat} {o w : Nat → Int32} {v : Nat} {goal : Int32} (hs : Sub n (w v)) (h : OKp n 1 (owN o) (wyB w) v (fun u => bt goal u = false)) : sat o w v goal = false := by
  unfold sat
  by_cases e : o v = 0
  · rw [if_pos e]
    apply decide_eq_false
    intro h0
    apply h0
    rw [bt_zero]
    intro u hu
    rw [b_and]
    cases h1 : bt (w v) u with
    | false => rfl
    | true => rw [h.2 (by unfold owN; rw [if_pos e]; decide) u (hs.lt h1) h1]; rfl
  · rw [if_neg e]
    obtain ⟨u, h1, h2, h3⟩ := h.1 (by unfold owN; rw [if_neg e])
    apply decide_eq_false
    intro h0
    have h2 : bt (w v) u = true := h2
    have := bt_zero.mp h0 u (bt_lt h2)
    rw [b_diff (bt_lt h2), h2, h3] at this
    cases this
theorem sat_le {o w : Nat → Int32} {v : Nat} {g g' : Int32} (h : Le g g') (hs : sat o w v g = true) : sat o w v g' = true := by
  unfold sat at hs ⊢
  by_cases e : o v = 0
  · rw [if_pos e] at hs ⊢
    obtain ⟨u, hu, hb⟩ := bt_ne (of_decide_eq_true hs)
    rw [b_and] at hb
    obtain ⟨h1, h2⟩ := bat2 hb
    apply decide_eq_true
    intro h0
    have := bt_zero.mp h0 u hu
    rw [b_and, h1, h u h2] at this
    cases this
  · rw [if_neg e] at hs ⊢
    have h0 := bt_zero.mp (of_decide_eq_true hs)
    apply decide_eq_true
    rw [bt_zero]
    intro u hu
    have h1 := h0 u hu
    rw [b_diff hu] at h1 ⊢
    cases hw : bt (w v) u with
    | false => rfl
    | true =>
      rw [hw] at h1
      cases hg : bt g u with
      | false => rw [hg] at h1; cases h1
      | true => rw [h u hg]; rfl
/-- the places from which player 0 can go on so -/
def nxs (o r w y : Nat → Int32) : Nat → Int32
  | 0 => 0
  | k + 1 => nxs o r w y k ||| (if sat o w k (y (rkN r k)) = true then 1 <<< (nI k &&& 31) else 0)
theorem bt_nxs {o r w y : Nat → Int32} (k : Nat) (hk : k ≤ 12) : ∀ i, i < 32 → bt (nxs o r w y k) i = (decide (i < k) && sat o w i (y (rkN r i))) := by
  induction k with
  | zero => intro i hi; show bt 0 i = _; rw [b_0]; simp
  | succ k ih =>
    intro i hi
    show bt (nxs o r w y k ||| _) i = _
    rw [b_or, ih (by omega) i hi]
    by_cases e : i = k
    · subst e
      by_cases hc : sat o w i (y (rkN r i)) = true
      · rw [if_pos hc, bt_bit (by omega) hi, hc]; simp
      · rw [if_neg hc, b_0, bf hc]; simp
    · have e2 : decide (i < k + 1) = decide (i < k) := by simp; omega
      rw [e2]
      by_cases hc : sat o w k (y (rkN r k)) = true
      · rw [if_pos hc, bt_bit (by omega) hi, decide_eq_false e, Bool.or_false]
      · rw [if_neg hc, b_0, Bool.or_false]
theorem g01 : gi 0 1 = true := by decide
theorem c00 : Int32.toNatClampNeg 0 = 0 := by decide
theorem p_next {N n : Nat} {g o r w y : Nat → Int32} (hN : 14 ≤ N) (V : VF n o r w) (hg : g 0 = nI n) : f_L_next N g o r w y = some (nxs o r w y n) := by
  obtain ⟨hn, hV⟩ := V
  obtain ⟨x, h1, h2⟩ := for_inv (fun m k a => f_L_next_L6 N g o r w y m a k) n (fun k (a : Int32) => a = nxs o r w y k) (fun a => a = nxs o r w y n)
    (fun m a ha => ⟨a, by simp only [f_L_next_L6, chk_t g01, c00, hg]; rw [if_pos (Int32.le_refl _)], ha⟩)
    (fun m k a hk ha => Or.inr ⟨nxs o r w y (k + 1), by
      obtain ⟨k1, k2, k3, k4⟩ := idx hk hn
      obtain ⟨-, ⟨r1, r2⟩, -⟩ := hV k hk
      have hrk : Int32.toNatClampNeg (r k) = rkN r k := rfl
      have hgr : gi (r k) 6 = true := by rw [r1]; exact gi_ok r2 (by omega)
      subst ha
      simp only [f_L_next_L6, chk_t g01, c00, hg, if_neg k1, chk_t k2, k3, k4, chk_t hgr, hrk, nxs, sat]
      by_cases e1 : o k = 0
      · by_cases e2 : (w k &&& y (rkN r k)) = 0
        · simp [e1, e2]
        · simp [e1, e2]
      · by_cases e2 : (w k &&& (y (rkN r k) ^^^ (-1))) = 0
        · simp only [if_neg e1, if_pos e2, decide_eq_true e2, Option.bind_some, if_neg (show ¬ (1 : Int32) = 0 by decide), if_true]
        · simp only [if_neg e1, if_neg e2, decide_eq_false e2, Option.bind_some, eq_self, if_true, Bool.false_eq_true, if_false], rfl⟩)
    0 N 0 (by omega) (by omega) rfl
  have h1 : f_L_next_L6 N g o r w y N 0 0 = some x := h1
  simp only [f_L_next, h1, h2, Option.bind_some]
/-! rounds of a set -/
def it (F : Int32 → Int32) : Nat → Int32 → Int32
  | 0, x => x
  | k + 1, x => F (it F k x)
theorem it_le {F F' : Int32 → Int32} (h : ∀ X X', Le X X' → Le (F X) (F' X')) {a a' : Int32} (ha : Le a a') (k : Nat) : Le (it F k a) (it F' k a') := by
  induction k with
  | zero => exact ha
  | succ k ih => exact h _ _ ih
theorem it_stop {F : Int32 → Int32} {x : Int32} {k : Nat} (h : it F k x = it F (k + 1) x) : ∀ j, it F (k + j) x = it F k x := by
  intro j
  induction j with
  | zero => rfl
  | succ j ih =>
    show F (it F (k + j) x) = _
    rw [ih]
    exact h.symm
theorem it_fix {n : Nat} {F : Int32 → Int32} {x : Int32} (hF : ∀ X X', Le X X' → Le (F X) (F X')) (hs : ∀ X, Sub n (F X)) (hx : Sub n x) (h : Le x (F x) ∨ Le (F x) x) : it F n x = it F (n + 1) x := by
  have hsub : ∀ k, Sub n (it F k x) := fun k => by
    cases k with
    | zero => exact hx
    | succ k => exact hs _
  have hne : ∀ k, it F k x ≠ it F (k + 1) x → ∃ v, v < n ∧ bt (it F k x) v ≠ bt (it F (k + 1) x) v := fun k hk => by
    apply Classical.byContradiction
    intro hno
    apply hk
    apply ext_n (hsub _) (hsub _)
    intro v hv
    apply Classical.byContradiction
    intro e
    exact hno ⟨v, hv, e⟩
  apply Classical.byContradiction
  intro hno
  have hno' : ∀ k, k ≤ n → it F k x ≠ it F (k + 1) x := fun k hk e => by
    have h1 := it_stop e (n - k)
    have h2 := it_stop e (n + 1 - k)
    rw [show k + (n - k) = n from by omega] at h1
    rw [show k + (n + 1 - k) = n + 1 from by omega] at h2
    exact hno (h1.trans h2.symm)
  rcases h with h | h
  · have hup : ∀ k, Le (it F k x) (it F (k + 1) x) := fun k => by
      induction k with
      | zero => exact h
      | succ k ih => exact hF _ _ ih
    have hc : ∀ k, k ≤ n + 1 → k ≤ cn (bt (it F k x)) n := fun k => by
      induction k with
      | zero => exact fun _ => Nat.zero_le _
      | succ k ih =>
        intro hk
        obtain ⟨v, hv, e⟩ := hne k (hno' k (by omega))
        have hb : bt (it F k x) v = false := bf (fun h' => e (h'.trans (hup k v h').symm))
        have hb2 : bt (it F (k + 1) x) v = true := by
          cases h' : bt (it F (k + 1) x) v with
          | true => rfl
          | false => exact absurd (hb.trans h'.symm) e
        have := cn_lt (f := bt (it F k x)) (g := bt (it F (k + 1) x)) (fun i _ h' => hup k i h') hv hb hb2
        have := ih (by omega)
        omega
    have h1 := hc (n + 1) (Nat.le_refl _)
    have h2 := cn_le (bt (it F (n + 1) x)) n
    omega
  · have hup : ∀ k, Le (it F (k + 1) x) (it F k x) := fun k => by
      induction k with
      | zero => exact h
      | succ k ih => exact hF _ _ ih
    have hc : ∀ k, k ≤ n + 1 → cn (bt (it F k x)) n + k ≤ n := fun k => by
      induction k with
      | zero => exact fun _ => cn_le _ n
      | succ k ih =>
        intro hk
        obtain ⟨v, hv, e⟩ := hne k (hno' k (by omega))
        have hb : bt (it F (k + 1) x) v = false := bf (fun h' => e ((hup k v h').trans h'.symm))
        have hb2 : bt (it F k x) v = true := by
          cases h' : bt (it F k x) v with
          | true => rfl
          | false => exact absurd (h'.trans hb.symm) e
        have := cn_lt (f := bt (it F (k + 1) x)) (g := bt (it F k x)) (fun i _ h' => hup k i h') hv hb hb2
        have := ih (by omega)
        omega
    have h1 := hc (n + 1) (Nat.le_refl _)
    omega
/-- the sets of the ranks below i, out of those of the ranks from i on -/
def Vv (n : Nat) (o r w : Nat → Int32) (all : Int32) : Nat → (Nat → Int32) → Int32
  | 0, y => nxs o r w y n
  | i + 1, y => it (fun X => Vv n o r w all i (upd y i X)) (n + 1) (if i % 2 = 0 then all else 0)
theorem upd_e {y : Nat → Int32} {k : Nat} {v : Int32} : upd y k v k = v := if_pos rfl
theorem upd_d {y : Nat → Int32} {k j : Nat} {v : Int32} (h : j ≠ k) : upd y k v j = y j := if_neg h
theorem Vv_le {n : Nat} {o r w : Nat → Int32} {all : Int32} (hn : n ≤ 12) : ∀ i y y', (∀ j, i ≤ j → Le (y j) (y' j)) → Le (Vv n o r w all i y) (Vv n o r w all i y') := by
  intro i
  induction i with
  | zero =>
    intro y y' h v hv
    have h32 := bt_lt hv
    have hv : bt (nxs o r w y n) v = true := hv
    show bt (nxs o r w y' n) v = true
    rw [bt_nxs n hn v h32] at hv ⊢
    obtain ⟨h1, h2⟩ := bat2 hv
    exact bat h1 (sat_le (h _ (Nat.zero_le _)) h2)
  | succ i ih =>
    intro y y' h
    refine it_le (fun X X' hX => ih _ _ (fun j hj => ?_)) Le.rf (n + 1)
    by_cases e : j = i
    · rw [e, upd_e, upd_e]; exact hX
    · rw [upd_d e, upd_d e]; exact h j (by omega)
theorem Vv_cg {n : Nat} {o r w : Nat → Int32} {all : Int32} (hn : n ≤ 12) {i : Nat} {y y' : Nat → Int32} (h : ∀ j, i ≤ j → y j = y' j) : Vv n o r w all i y = Vv n o r w all i y' :=
  Le.anti (Vv_le hn i y y' (fun j hj => by rw [h j hj]; exact Le.rf)) (Vv_le hn i y' y (fun j hj => by rw [h j hj]; exact Le.rf))
theorem Vv_sub {n : Nat} {o r w : Nat → Int32} {all : Int32} (hn : n ≤ 12) : ∀ i y, Sub n (Vv n o r w all i y) := by
  intro i
  induction i with
  | zero =>
    intro y v h1 h2
    show bt (nxs o r w y n) v = false
    rw [bt_nxs n hn v h2, decide_eq_false (by omega)]; rfl
  | succ i ih => intro y; exact ih _
theorem Vv_fix {n : Nat} {o r w : Nat → Int32} {all : Int32} (hn : n ≤ 12) (hall : ∀ i, i < 32 → bt all i = decide (i < n)) (i : Nat) (y : Nat → Int32) :
    it (fun X => Vv n o r w all i (upd y i X)) n (if i % 2 = 0 then all else 0) = Vv n o r w all (i + 1) y := by
  have hF : ∀ X X', Le X X' → Le (Vv n o r w all i (upd y i X)) (Vv n o r w all i (upd y i X')) := fun X X' hX => Vv_le hn i _ _ (fun j hj => by
    by_cases e : j = i
    · rw [e, upd_e, upd_e]; exact hX
    · rw [upd_d e, upd_d e]; exact Le.rf)
  by_cases e : i % 2 = 0
  · show _ = it _ (n + 1) (if i % 2 = 0 then all else 0)
    rw [if_pos e]
    refine it_fix hF (fun X => Vv_sub hn i _) (fun v h1 h2 => by rw [hall v h2]; simp; omega) (Or.inr (fun v hv => ?_))
    have h1 := (Vv_sub hn i _).lt hv
    rw [hall v (bt_lt hv)]
    exact decide_eq_true h1
  · show _ = it _ (n + 1) (if i % 2 = 0 then all else 0)
    rw [if_neg e]
    exact it_fix hF (fun X => Vv_sub hn i _) Sub.zero (Or.inl (fun v hv => by rw [b_0] at hv; cases hv))
theorem Vv_eq {n : Nat} {o r w : Nat → Int32} {all : Int32} (hn : n ≤ 12) (hall : ∀ i, i < 32 → bt all i = decide (i < n)) (i : Nat) (y : Nat → Int32) : Vv n o r w all i (upd y i (Vv n o r w all (i + 1) y)) = Vv n o r w all (i + 1) y := by
  have h : it (fun X => Vv n o r w all i (upd y i X)) (n + 1) (if i % 2 = 0 then all else 0) = Vv n o r w all (i + 1) y := rfl
  have h2 := Vv_fix (o := o) (r := r) (w := w) hn hall i y
  rw [← h2] at h ⊢
  exact h
/-- a certificate within the ranks below i -/
def Ci (n p i : Nat) (β : Bool) (o r w y : Nat → Int32) (S : Nat → Bool) (f : Nat → Nat) : Prop :=
  ∀ v, v < n → S v = true → OKp n p (owN o) (wyB w) v (fun u => (i ≤ rkN r v ∧ bt (y (rkN r v)) u = β) ∨ (rkN r v < i ∧ S u = true ∧ dn p (rkN r) f v u))
theorem Ci_in {n p : Nat} {β : Bool} {o r w : Nat → Int32} {all : Int32} (V : VF n o r w) (hall : ∀ i, i < 32 → bt all i = decide (i < n)) (hp : (p = 0 ∧ β = true) ∨ (p = 1 ∧ β = false)) :
    ∀ i y S f, Ci n p i β o r w y S f → ∀ v, v < n → S v = true → bt (Vv n o r w all i y) v = β := by
  obtain ⟨hn, hV⟩ := V
  intro i
  induction i with
  | zero =>
    intro y S f h v hv hs
    show bt (nxs o r w y n) v = β
    rw [bt_nxs n hn v (by omega), decide_eq_true hv, Bool.true_and]
    have h1 : OKp n p (owN o) (wyB w) v (fun u => bt (y (rkN r v)) u = β) := (h v hv hs).imp (fun u _ hu => by
      rcases hu with ⟨-, hu⟩ | ⟨hu, -⟩
      · exact hu
      · exact absurd hu (Nat.not_lt_zero _))
    rcases hp with ⟨rfl, rfl⟩ | ⟨rfl, rfl⟩
    · exact sat0 (hV v hv).2.2 h1
    · exact sat1 (hV v hv).2.2 h1
  | succ i ih =>
    intro y S f h
    by_cases e : i % 2 = p
    · have key : ∀ k, ∀ v, v < n → S v = true → bt (it (fun X => Vv n o r w all i (upd y i X)) k (if i % 2 = 0 then all else 0)) v = β := by
        intro k
        induction k with
        | zero =>
          intro v hv hs
          show bt (if i % 2 = 0 then all else 0) v = β
          rcases hp with ⟨rfl, rfl⟩ | ⟨rfl, rfl⟩
          · rw [if_pos e, hall v (by omega)]; exact decide_eq_true hv
          · rw [if_neg (by omega), b_0]
        | succ k ihk =>
          intro v hv hs
          refine ih (upd y i _) S f (fun v hv hs => (h v hv hs).imp (fun u hu hP => ?_)) v hv hs
          rcases hP with ⟨h1, h2⟩ | ⟨h1, h2, h3⟩
          · exact Or.inl ⟨by omega, by rw [upd_d (by omega)]; exact h2⟩
          · by_cases e2 : rkN r v = i
            · exact Or.inl ⟨by omega, by rw [e2, upd_e]; exact ihk u hu h2⟩
            · exact Or.inr ⟨by omega, h2, h3⟩
      exact key (n + 1)
    · have key : ∀ c, ∀ v, v < n → S v = true → f v / 256 ^ i < c → bt (Vv n o r w all (i + 1) y) v = β := by
        intro c
        induction c with
        | zero => intro v _ _ h; exact absurd h (Nat.not_lt_zero _)
        | succ c ihc =>
          intro v hv hs hc
          rw [← Vv_eq hn hall i y]
          refine ih (upd y i _) (fun v => S v && decide (f v / 256 ^ i < c + 1)) f (fun v hv hs => ?_) v hv (bat hs (decide_eq_true hc))
          obtain ⟨s1, s2⟩ := bat2 hs
          have s2 : f v / 256 ^ i < c + 1 := of_decide_eq_true s2
          refine (h v hv s1).imp (fun u hu hP => ?_)
          rcases hP with ⟨h1, h2⟩ | ⟨h1, h2, h3⟩
          · exact Or.inl ⟨by omega, by rw [upd_d (by omega)]; exact h2⟩
          · by_cases e2 : rkN r v = i
            · refine Or.inl ⟨by omega, ?_⟩
              rw [e2, upd_e]
              have h4 := h3.2 (by rw [e2]; exact e)
              rw [e2] at h4
              exact ihc u hu h2 (by omega)
            · refine Or.inr ⟨by omega, bat h2 (decide_eq_true ?_), h3⟩
              have hp2 : 256 ^ i = 256 ^ rkN r v * 256 ^ (i - rkN r v) := by rw [← Nat.pow_add]; congr 1; omega
              have h5 : f u / 256 ^ i ≤ f v / 256 ^ i := by
                rw [hp2, ← Nat.div_div_eq_div_mul, ← Nat.div_div_eq_div_mul]
                exact Nat.div_le_div_right h3.1
              omega
      intro v hv hs
      exact key (f v / 256 ^ i + 1) v hv hs (Nat.lt_succ_self _)
theorem Vv_win {n : Nat} {o r w y : Nat → Int32} {all R : Int32} (V : VF n o r w) (hall : ∀ i, i < 32 → bt all i = decide (i < n)) (hR : WinS n o r w R) : Vv n o r w all 6 y = R := by
  obtain ⟨h0, ⟨f, h1⟩, ⟨g, h2⟩⟩ := hR
  have hn := V.1
  apply ext_n (Vv_sub hn 6 y) h0
  intro v hv
  have conv : ∀ {p : Nat} {S : Nat → Bool} {f : Nat → Nat} {β : Bool}, Cert p n (owN o) (rkN r) (wyB w) (fun _ => true) S f → Ci n p 6 β o r w y S f := fun {p S f β} h v hv hs => by
    obtain ⟨-, a, b⟩ := h v hv hs
    refine ⟨fun e => ?_, fun e u hu hw => ?_⟩
    · obtain ⟨u, u1, u2, u3, u4⟩ := a e
      exact ⟨u, u1, u2, Or.inr ⟨(V.2 v hv).2.1.2, u3, u4⟩⟩
    · obtain ⟨u3, u4⟩ := b e u hu hw rfl
      exact Or.inr ⟨(V.2 v hv).2.1.2, u3, u4⟩
  cases hb : bt R v with
  | true => exact Ci_in V hall (Or.inl ⟨rfl, rfl⟩) 6 y (bt R) f (conv h1) v hv hb
  | false => exact Ci_in V hall (Or.inr ⟨rfl, rfl⟩) 6 y (fun v => !bt R v) g (conv h2) v hv (by show (!bt R v) = true; rw [hb]; rfl)
