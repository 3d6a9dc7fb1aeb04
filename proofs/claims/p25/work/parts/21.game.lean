/-! who wins: certificates. A certificate of player i on the set S (within the arena A): a measure f, read in base 256: from a place of rank p the digits from p on don't rise, and fall if p is bad for i -/
def dn (i : Nat) (rk f : Nat → Nat) (v u : Nat) : Prop := f u / 256 ^ rk v ≤ f v / 256 ^ rk v ∧ (rk v % 2 ≠ i → f u / 256 ^ rk v < f v / 256 ^ rk v)
def Cert (i n : Nat) (ow rk : Nat → Nat) (wy : Nat → Nat → Bool) (A S : Nat → Bool) (f : Nat → Nat) : Prop :=
  ∀ v, v < n → S v = true → A v = true ∧ (ow v = i → ∃ u, u < n ∧ wy v u = true ∧ S u = true ∧ dn i rk f v u) ∧ (ow v ≠ i → ∀ u, u < n → wy v u = true → A u = true → S u = true ∧ dn i rk f v u)
theorem dn_lt {i : Nat} {rk f : Nat → Nat} {v u c e : Nat} (h1 : f u < c * 256 ^ e) (h2 : c * 256 ^ e ≤ f v) (h : rk v ≤ e) : dn i rk f v u := by
  have hp : 256 ^ e = 256 ^ (e - rk v) * 256 ^ rk v := by rw [← Nat.pow_add]; congr 1; omega
  have h0 : 0 < 256 ^ rk v := Nat.pow_pos (by omega)
  rw [hp, ← Nat.mul_assoc] at h1 h2
  have a1 : f u / 256 ^ rk v < c * 256 ^ (e - rk v) := (Nat.div_lt_iff_lt_mul h0).mpr h1
  have a2 : c * 256 ^ (e - rk v) ≤ f v / 256 ^ rk v := (Nat.le_div_iff_mul_le h0).mpr h2
  exact ⟨by omega, fun _ => by omega⟩
theorem dn_sh {i : Nat} {rk f g : Nat → Nat} {v u c e : Nat} (hd : dn i rk g v u) (h1 : f v = c * 256 ^ e + g v) (h2 : f u = c * 256 ^ e + g u) (h : rk v ≤ e) : dn i rk f v u := by
  have hp : 256 ^ e = 256 ^ rk v * 256 ^ (e - rk v) := by rw [← Nat.pow_add]; congr 1; omega
  have h0 : 0 < 256 ^ rk v := Nat.pow_pos (by omega)
  have k : ∀ x, (c * 256 ^ e + x) / 256 ^ rk v = c * 256 ^ (e - rk v) + x / 256 ^ rk v := by
    intro x
    rw [hp, show c * (256 ^ rk v * 256 ^ (e - rk v)) = 256 ^ rk v * (c * 256 ^ (e - rk v)) from by rw [Nat.mul_left_comm]]
    exact Nat.mul_add_div h0 _ _
  unfold dn
  rw [h1, h2, k, k]
  exact ⟨by have := hd.1; omega, fun hb => by have := hd.2 hb; omega⟩
theorem dn_0 {i : Nat} {rk f : Nat → Nat} {v u : Nat} (h1 : f u < 256 ^ rk v) (h : rk v % 2 = i) : dn i rk f v u := by
  unfold dn
  rw [Nat.div_eq_of_lt h1]
  exact ⟨Nat.zero_le _, fun hb => absurd h hb⟩
theorem dn_eq {i : Nat} {rk f g : Nat → Nat} {v u : Nat} (hd : dn i rk g v u) (h1 : f v = g v) (h2 : f u = g u) : dn i rk f v u := by
  unfold dn at hd ⊢
  rw [h1, h2]; exact hd
/-- what a player pulls: X out of S within A, by the steps l -/
def PullS (i n : Nat) (ow : Nat → Nat) (wy : Nat → Nat → Bool) (A S X : Nat → Bool) (l : Nat → Nat) : Prop :=
  (∀ v, v < n → S v = true → X v = true) ∧ (∀ v, v < n → X v = true → A v = true ∧ l v ≤ 12) ∧
  (∀ v, v < n → X v = true → S v = false → 1 ≤ l v ∧ (ow v = i → ∃ u, u < n ∧ wy v u = true ∧ X u = true ∧ l u < l v) ∧ (ow v ≠ i → ∀ u, u < n → wy v u = true → A u = true → X u = true ∧ l u < l v)) ∧
  (∀ v, v < n → A v = true → X v = false → (ow v = i → ∀ u, u < n → wy v u = true → X u = false) ∧ (ow v ≠ i → (∀ u, u < n → wy v u = true → A u = true → X u = false) ∨ ∃ u, u < n ∧ wy v u = true ∧ A u = true ∧ X u = false))
theorem ban {a b : Bool} (h1 : a = true) (h2 : b = false) : (a && !b) = true := by rw [h1, h2]; rfl
theorem bat {a b : Bool} (h1 : a = true) (h2 : b = true) : (a && b) = true := by rw [h1, h2]; rfl
theorem ba0 {a b : Bool} (h : a = false) : (a && b) = false := by rw [h]; rfl
theorem ban2 {a b : Bool} (h : (a && !b) = true) : a = true ∧ b = false := by cases a <;> cases b <;> simp_all
theorem bat2 {a b : Bool} (h : (a && b) = true) : a = true ∧ b = true := by cases a <;> cases b <;> simp_all
theorem bf {b : Bool} (h : ¬ b = true) : b = false := by cases b <;> simp_all
theorem bt' {b : Bool} (h : ¬ b = false) : b = true := by cases b <;> simp_all
section ZIEL
variable {n d i j c : Nat} {ow rk : Nat → Nat} {wy : Nat → Nat → Bool} {A rest X lost Y R : Nat → Bool} {l : Nat → Nat} {g g' fE : Nat → Nat}
/-- the friend wins all of the rest -/
theorem zf (hi : i = d % 2) (hsub : ∀ v, v < n → rest v = true → A v = true) (ha : ∀ v, v < n → rest v = true → ∃ u, u < n ∧ wy v u = true ∧ rest u = true)
    (hb : ∀ v, v < n → rest v = true → ow v ≠ i → ∀ u, u < n → wy v u = true → A u = true → rest u = true) (hr : ∀ v, v < n → rest v = true → rk v ≤ d)
    (hX : PullS i n ow wy rest (fun v => rest v && decide (rk v = d)) X l)
    (hg : Cert i n ow rk wy (fun v => rest v && !X v) (fun v => rest v && !X v) g) (hgb : ∀ v, v < n → rest v = true → X v = false → g v < 200 * 256 ^ (d - 1)) :
    ∃ f, Cert i n ow rk wy A rest f ∧ ∀ v, v < n → rest v = true → f v < 256 ^ d := by
  obtain ⟨x1, x2, x3, x4⟩ := hX
  by_cases hd0 : d = 0
  · subst hd0
    refine ⟨fun _ => 0, fun v hv hrv => ?_, fun v _ _ => by simp⟩
    have hrk : rk v = 0 := by have := hr v hv hrv; omega
    have hdn : ∀ u, dn i rk (fun _ => 0) v u := fun u => dn_0 (by rw [hrk]; decide) (by rw [hrk, hi])
    refine ⟨hsub v hv hrv, fun ho => ?_, fun ho u hu hw hau => ⟨hb v hv hrv ho u hu hw hau, hdn u⟩⟩
    obtain ⟨u, h1, h2, h3⟩ := ha v hv hrv
    exact ⟨u, h1, h2, h3, hdn u⟩
  have hP : 256 ^ d = 256 * 256 ^ (d - 1) := by
    rw [show d = (d - 1) + 1 from by omega, Nat.pow_succ, Nat.mul_comm]; rfl
  have hP0 : 0 < 256 ^ (d - 1) := Nat.pow_pos (by omega)
  let f : Nat → Nat := fun v => if X v = true then l v * 256 ^ (d - 1) else 13 * 256 ^ (d - 1) + g v
  have fX : ∀ v, X v = true → f v = l v * 256 ^ (d - 1) := fun v h => if_pos h
  have fN : ∀ v, X v = false → f v = 13 * 256 ^ (d - 1) + g v := fun v h => if_neg (by rw [h]; simp)
  have fb : ∀ v, v < n → rest v = true → f v < 256 ^ d := by
    intro v hv hrv
    rw [hP]
    by_cases hx : X v = true
    · rw [fX v hx]
      have := (x2 v hv hx).2
      exact Nat.mul_lt_mul_of_pos_right (by omega) hP0
    · have hx := bf hx
      rw [fN v hx]
      have := hgb v hv hrv hx
      omega
  refine ⟨f, fun v hv hrv => ⟨hsub v hv hrv, ?_⟩, fb⟩
  by_cases hx : X v = true
  · by_cases hrk : rk v = d
    · have hdn : ∀ u, u < n → rest u = true → dn i rk f v u := fun u hu hru => dn_0 (by rw [hrk]; exact fb u hu hru) (by rw [hrk, hi])
      refine ⟨fun ho => ?_, fun ho u hu hw hau => ?_⟩
      · obtain ⟨u, h1, h2, h3⟩ := ha v hv hrv
        exact ⟨u, h1, h2, h3, hdn u h1 h3⟩
      · have h := hb v hv hrv ho u hu hw hau
        exact ⟨h, hdn u hu h⟩
    · have hle : rk v ≤ d - 1 := by have := hr v hv hrv; omega
      obtain ⟨y1, y2, y3⟩ := x3 v hv hx (by simp [hrv, hrk])
      have hdn : ∀ u, X u = true → l u < l v → dn i rk f v u := fun u hxu hl => dn_lt (c := l v) (e := d - 1) (by rw [fX u hxu]; exact Nat.mul_lt_mul_of_pos_right hl hP0) (by rw [fX v hx]; exact Nat.le_refl _) hle
      refine ⟨fun ho => ?_, fun ho u hu hw hau => ?_⟩
      · obtain ⟨u, h1, h2, h3, h4⟩ := y2 ho
        exact ⟨u, h1, h2, (x2 u h1 h3).1, hdn u h3 h4⟩
      · have hru := hb v hv hrv ho u hu hw hau
        obtain ⟨h3, h4⟩ := y3 ho u hu hw hru
        exact ⟨hru, hdn u h3 h4⟩
  · have hx := bf hx
    have hle : rk v ≤ d - 1 := by
      have h1 := hr v hv hrv
      have h2 : rk v ≠ d := fun e => by
        have := x1 v hv (by simp [hrv, e])
        rw [this] at hx; cases hx
      omega
    obtain ⟨-, g1, g2⟩ := hg v hv (ban hrv hx)
    have hsh : ∀ u, X u = false → dn i rk g v u → dn i rk f v u := fun u hu h => dn_sh h (fN v hx) (fN u hu) hle
    refine ⟨fun ho => ?_, fun ho u hu hw hau => ?_⟩
    · obtain ⟨u, h1, h2, h3, h4⟩ := g1 ho
      have h5 : rest u = true ∧ X u = false := by simpa using h3
      exact ⟨u, h1, h2, h5.1, hsh u h5.2 h4⟩
    · have hru := hb v hv hrv ho u hu hw hau
      by_cases hxu : X u = true
      · refine ⟨hru, dn_lt (c := 13) (e := d - 1) ?_ ?_ hle⟩
        · rw [fX u hxu]
          have := (x2 u hu hxu).2
          exact Nat.mul_lt_mul_of_pos_right (by omega) hP0
        · rw [fN v hx]; exact Nat.le_add_right _ _
      · have hxu := bf hxu
        obtain ⟨-, h4⟩ := g2 ho u hu hw (ban hru hxu)
        exact ⟨hru, hsh u hxu h4⟩
/-- the enemy's region grows by what is lost and pulled into it -/
theorem ze (hsub : ∀ v, v < n → rest v = true → A v = true) (hown : ∀ v, v < n → ow v = i ∨ ow v = j) (hij : i ≠ j) (hr : ∀ v, v < n → A v = true → rk v ≤ d)
    (hE : Cert j n ow rk wy A (fun v => A v && !rest v) fE) (hEb : ∀ v, v < n → A v = true → rest v = false → fE v < c * 256 ^ d)
    (hX : ∀ v, v < n → rest v = true → X v = false → ow v = i → ∀ u, u < n → wy v u = true → X u = false)
    (hls : ∀ v, v < n → lost v = true → rest v = true ∧ X v = false)
    (hg : Cert j n ow rk wy (fun v => rest v && !X v) lost g) (hgb : ∀ v, v < n → lost v = true → g v < 256 ^ d)
    (hY : PullS j n ow wy rest lost Y l) :
    ∃ f, Cert j n ow rk wy A (fun v => A v && !(rest v && !Y v)) f ∧ ∀ v, v < n → A v = true → (rest v && !Y v) = false → f v < (c + 13) * 256 ^ d := by
  obtain ⟨y1, y2, y3, y4⟩ := hY
  have hP0 : 0 < 256 ^ d := Nat.pow_pos (by omega)
  let f : Nat → Nat := fun v => if rest v = false then fE v else if lost v = true then c * 256 ^ d + g v else (c + l v) * 256 ^ d
  have f1 : ∀ v, rest v = false → f v = fE v := fun v h => if_pos h
  have f2 : ∀ v, rest v = true → lost v = true → f v = c * 256 ^ d + g v := fun v h h' => by show (if _ then _ else if _ then _ else _) = _; rw [if_neg (by rw [h]; simp), if_pos h']
  have f3 : ∀ v, rest v = true → lost v = false → f v = (c + l v) * 256 ^ d := fun v h h' => by show (if _ then _ else if _ then _ else _) = _; rw [if_neg (by rw [h]; simp), if_neg (by rw [h']; simp)]
  have hdE : ∀ v u, v < n → u < n → A v = true → A u = true → rest u = false → rest v = true → dn j rk f v u := by
    intro v u hv hu hav hau hru hrv
    refine dn_lt (c := c) (e := d) (by rw [f1 u hru]; exact hEb u hu hau hru) ?_ (hr v hv hav)
    by_cases hlo : lost v = true
    · rw [f2 v hrv hlo]; exact Nat.le_add_right _ _
    · rw [f3 v hrv (bf hlo)]; exact Nat.mul_le_mul_right _ (Nat.le_add_right _ _)
  have hdY : ∀ v u, v < n → u < n → A v = true → rest v = true → lost v = false → 1 ≤ l v → Y u = true → l u < l v → dn j rk f v u := by
    intro v u hv hu hav hrv hlo h1 hyu hlt
    have hru := (y2 u hu hyu).1
    refine dn_lt (c := c + l v) (e := d) ?_ (by rw [f3 v hrv hlo]; exact Nat.le_refl _) (hr v hv hav)
    by_cases hlu : lost u = true
    · rw [f2 u hru hlu]
      have h2 := hgb u hu hlu
      have h3 : (c + 1) * 256 ^ d ≤ (c + l v) * 256 ^ d := Nat.mul_le_mul_right _ (by omega)
      have h4 : (c + 1) * 256 ^ d = c * 256 ^ d + 256 ^ d := by rw [Nat.add_mul, Nat.one_mul]
      omega
    · rw [f3 u hru (bf hlu)]
      exact Nat.mul_lt_mul_of_pos_right (by omega) hP0
  refine ⟨f, fun v hv hS => ?_, fun v hv hav hrv => ?_⟩
  · have hS : A v = true ∧ (rest v && !Y v) = false := ban2 hS
    obtain ⟨hav, hS⟩ := hS
    refine ⟨hav, ?_⟩
    by_cases hrv : rest v = true
    · have hyv : Y v = true := by rw [hrv] at hS; simpa using hS
      have inS : ∀ u, u < n → Y u = true → (A u && !(rest u && !Y u)) = true := fun u hu hyu => by
        rw [hsub u hu (y2 u hu hyu).1, hyu]; simp
      by_cases hlo : lost v = true
      · obtain ⟨hrv2, hxv⟩ := hls v hv hlo
        obtain ⟨-, g1, g2⟩ := hg v hv hlo
        refine ⟨fun ho => ?_, fun ho u hu hw hau => ?_⟩
        · obtain ⟨u, h1, h2, h3, h4⟩ := g1 ho
          have hru := (hls u h1 h3).1
          exact ⟨u, h1, h2, inS u h1 (y1 u h1 h3), dn_sh h4 (f2 v hrv hlo) (f2 u hru h3) (hr v hv hav)⟩
        · have hoi : ow v = i := by
            rcases hown v hv with h | h
            · exact h
            · exact absurd h ho
          by_cases hru : rest u = true
          · have hxu := hX v hv hrv hxv hoi u hu hw
            obtain ⟨h3, h4⟩ := g2 ho u hu hw (ban hru hxu)
            exact ⟨inS u hu (y1 u hu h3), dn_sh h4 (f2 v hrv hlo) (f2 u hru h3) (hr v hv hav)⟩
          · have hru := bf hru
            exact ⟨ban hau (ba0 hru), hdE v u hv hu hav hau hru hrv⟩
      · have hlo := bf hlo
        obtain ⟨z1, z2, z3⟩ := y3 v hv hyv hlo
        refine ⟨fun ho => ?_, fun ho u hu hw hau => ?_⟩
        · obtain ⟨u, h1, h2, h3, h4⟩ := z2 ho
          exact ⟨u, h1, h2, inS u h1 h3, hdY v u hv h1 hav hrv hlo z1 h3 h4⟩
        · by_cases hru : rest u = true
          · obtain ⟨h3, h4⟩ := z3 ho u hu hw hru
            exact ⟨inS u hu h3, hdY v u hv hu hav hrv hlo z1 h3 h4⟩
          · have hru := bf hru
            exact ⟨ban hau (ba0 hru), hdE v u hv hu hav hau hru hrv⟩
    · have hrv := bf hrv
      obtain ⟨-, e1, e2⟩ := hE v hv (ban hav hrv)
      refine ⟨fun ho => ?_, fun ho u hu hw hau => ?_⟩
      · obtain ⟨u, h1, h2, h3, h4⟩ := e1 ho
        have h5 : A u = true ∧ rest u = false := by simpa using h3
        exact ⟨u, h1, h2, ban h5.1 (ba0 h5.2), dn_eq h4 (f1 v hrv) (f1 u h5.2)⟩
      · obtain ⟨h3, h4⟩ := e2 ho u hu hw hau
        have h5 : A u = true ∧ rest u = false := by simpa using h3
        exact ⟨ban h5.1 (ba0 h5.2), dn_eq h4 (f1 v hrv) (f1 u h5.2)⟩
  · have hk : c * 256 ^ d ≤ (c + 13) * 256 ^ d := Nat.mul_le_mul_right _ (by omega)
    have hk2 : (c + 13) * 256 ^ d = c * 256 ^ d + 13 * 256 ^ d := Nat.add_mul _ _ _
    by_cases hru : rest v = true
    · have hyv : Y v = true := by rw [hru] at hrv; simpa using hrv
      by_cases hlo : lost v = true
      · rw [f2 v hru hlo]
        have := hgb v hv hlo
        omega
      · rw [f3 v hru (bf hlo)]
        have := (y2 v hv hyv).2
        exact Nat.mul_lt_mul_of_pos_right (by omega) hP0
    · rw [f1 v (bf hru)]
      have := hEb v hv hav (bf hru)
      omega
/-- the rest without what the enemy pulled is an arena again -/
theorem zinv (hsub : ∀ v, v < n → rest v = true → A v = true) (hown : ∀ v, v < n → ow v = i ∨ ow v = j) (hij : i ≠ j) (ha : ∀ v, v < n → rest v = true → ∃ u, u < n ∧ wy v u = true ∧ rest u = true)
    (hb : ∀ v, v < n → rest v = true → ow v ≠ i → ∀ u, u < n → wy v u = true → A u = true → rest u = true) (hY : PullS j n ow wy rest lost Y l) :
    (∀ v, v < n → (rest v && !Y v) = true → ∃ u, u < n ∧ wy v u = true ∧ (rest u && !Y u) = true) ∧
    (∀ v, v < n → (rest v && !Y v) = true → ow v ≠ i → ∀ u, u < n → wy v u = true → A u = true → (rest u && !Y u) = true) := by
  obtain ⟨-, -, -, y4⟩ := hY
  refine ⟨fun v hv h => ?_, fun v hv h ho u hu hw hau => ?_⟩
  · have h : rest v = true ∧ Y v = false := by simpa using h
    obtain ⟨u, h1, h2, h3⟩ := ha v hv h.1
    obtain ⟨z1, z2⟩ := y4 v hv h.1 h.2
    rcases hown v hv with ho | ho
    · rcases z2 (by rw [ho]; exact hij) with z | ⟨u, a1, a2, a3, a4⟩
      · exact ⟨u, h1, h2, ban h3 (z u h1 h2 h3)⟩
      · exact ⟨u, a1, a2, ban a3 a4⟩
    · exact ⟨u, h1, h2, ban h3 (z1 ho u h1 h2)⟩
  · have h : rest v = true ∧ Y v = false := by simpa using h
    have hoj : ow v = j := by
      rcases hown v hv with h' | h'
      · exact absurd h' ho
      · exact h'
    exact ban (hb v hv h.1 ho u hu hw hau) ((y4 v hv h.1 h.2).1 hoj u hu hw)
/-- no place of the top rank is left: the rest is solved by the ranks below -/
theorem zl (hsub : ∀ v, v < n → rest v = true → A v = true) (hr : ∀ v, v < n → A v = true → rk v ≤ d) (hown : ∀ v, v < n → ow v = i ∨ ow v = j)
    (hb : ∀ v, v < n → rest v = true → ow v ≠ i → ∀ u, u < n → wy v u = true → A u = true → rest u = true)
    (hE : Cert j n ow rk wy A (fun v => A v && !rest v) fE) (hEb : ∀ v, v < n → A v = true → rest v = false → fE v < c * 256 ^ d)
    (hRs : ∀ v, v < n → R v = true → rest v = true) (hg : Cert i n ow rk wy rest R g) (hg' : Cert j n ow rk wy rest (fun v => rest v && !R v) g') (hgb : ∀ v, v < n → rest v = true → R v = false → g' v < 256 ^ d) :
    Cert i n ow rk wy A R g ∧ ∃ f, Cert j n ow rk wy A (fun v => A v && !R v) f ∧ ∀ v, v < n → A v = true → R v = false → f v < (c + 13) * 256 ^ d := by
  refine ⟨fun v hv hRv => ?_, ?_⟩
  · obtain ⟨-, g1, g2⟩ := hg v hv hRv
    refine ⟨hsub v hv (hRs v hv hRv), g1, fun ho u hu hw hau => g2 ho u hu hw (hb v hv (hRs v hv hRv) ho u hu hw hau)⟩
  let f : Nat → Nat := fun v => if rest v = false then fE v else c * 256 ^ d + g' v
  have f1 : ∀ v, rest v = false → f v = fE v := fun v h => if_pos h
  have f2 : ∀ v, rest v = true → f v = c * 256 ^ d + g' v := fun v h => if_neg (by rw [h]; simp)
  refine ⟨f, fun v hv hS => ?_, fun v hv hav hRv => ?_⟩
  · have hS : A v = true ∧ R v = false := by simpa using hS
    obtain ⟨hav, hRv⟩ := hS
    refine ⟨hav, ?_⟩
    by_cases hrv : rest v = true
    · obtain ⟨-, g1, g2⟩ := hg' v hv (ban hrv hRv)
      refine ⟨fun ho => ?_, fun ho u hu hw hau => ?_⟩
      · obtain ⟨u, h1, h2, h3, h4⟩ := g1 ho
        have h5 : rest u = true ∧ R u = false := by simpa using h3
        exact ⟨u, h1, h2, ban (hsub u h1 h5.1) h5.2, dn_sh h4 (f2 v hrv) (f2 u h5.1) (hr v hv hav)⟩
      · by_cases hru : rest u = true
        · obtain ⟨h3, h4⟩ := g2 ho u hu hw hru
          have h5 : rest u = true ∧ R u = false := by simpa using h3
          exact ⟨ban hau h5.2, dn_sh h4 (f2 v hrv) (f2 u hru) (hr v hv hav)⟩
        · have hru := bf hru
          have hRu : R u = false := bf (fun h => by rw [hRs u hu h] at hru; cases hru)
          refine ⟨ban hau hRu, dn_lt (c := c) (e := d) (by rw [f1 u hru]; exact hEb u hu hau hru) (by rw [f2 v hrv]; exact Nat.le_add_right _ _) (hr v hv hav)⟩
    · have hrv := bf hrv
      obtain ⟨-, e1, e2⟩ := hE v hv (ban hav hrv)
      have key : ∀ u, u < n → (A u && !rest u) = true → dn j rk fE v u → (A u && !R u) = true ∧ dn j rk f v u := by
        intro u hu h3 h4
        have h5 : A u = true ∧ rest u = false := by simpa using h3
        have hRu : R u = false := bf (fun h => by rw [hRs u hu h] at h5; cases h5.2)
        exact ⟨ban h5.1 hRu, dn_eq h4 (f1 v hrv) (f1 u h5.2)⟩
      refine ⟨fun ho => ?_, fun ho u hu hw hau => ?_⟩
      · obtain ⟨u, h1, h2, h3, h4⟩ := e1 ho
        obtain ⟨k1, k2⟩ := key u h1 h3 h4
        exact ⟨u, h1, h2, k1, k2⟩
      · obtain ⟨h3, h4⟩ := e2 ho u hu hw hau
        exact key u hu h3 h4
  · have hk2 : (c + 13) * 256 ^ d = c * 256 ^ d + 13 * 256 ^ d := Nat.add_mul _ _ _
    by_cases hrv : rest v = true
    · rw [f2 v hrv]
      have := hgb v hv hrv hRv
      omega
    · rw [f1 v (bf hrv)]
      have := hEb v hv hav (bf hrv)
      omega
end ZIEL
/-- the places where f is least -/
theorem least_of (n : Nat) (X : Nat → Bool) (f : Nat → Nat) (v : Nat) (hv : v < n) (hX : X v = true) : ∃ w, w < n ∧ X w = true ∧ ∀ u, u < n → X u = true → f w ≤ f u := by
  obtain ⟨k, ⟨w, h1, h2, h3⟩, hk⟩ := pk_least (fun k => ∃ w, w < n ∧ X w = true ∧ f w = k) ⟨f v, v, hv, hX, rfl⟩
  refine ⟨w, h1, h2, fun u hu hXu => ?_⟩
  apply Classical.byContradiction
  intro h
  exact hk (f u) (by omega) ⟨u, hu, hXu, rfl⟩
/-- no place is in both players' certificates -/
theorem cert_disj {n : Nat} {ow rk : Nat → Nat} {wy : Nat → Nat → Bool} {S0 S1 : Nat → Bool} {f0 f1 : Nat → Nat} (hr : ∀ v, v < n → rk v < 6) (ho : ∀ v, v < n → ow v = 0 ∨ ow v = 1)
    (h0 : Cert 0 n ow rk wy (fun _ => true) S0 f0) (h1 : Cert 1 n ow rk wy (fun _ => true) S1 f1) : ∀ v, v < n → S0 v = true → S1 v = true → False := by
  have key : ∀ T, ∀ X : Nat → Bool, (∀ v, v < n → X v = true → rk v < T ∧ ∃ u, u < n ∧ X u = true ∧ dn 0 rk f0 v u ∧ dn 1 rk f1 v u) → ∀ v, v < n → X v = true → False := by
    intro T
    induction T with
    | zero => intro X hX v hv h; exact absurd (hX v hv h).1 (Nat.not_lt_zero _)
    | succ T ih =>
      intro X hX v hv hx
      have go : ∀ (i : Nat) (g : Nat → Nat), T % 2 ≠ i → (∀ v u, dn 0 rk f0 v u → dn 1 rk f1 v u → dn i rk g v u) → False := by
        intro i g hb hd
        obtain ⟨w, w1, w2, w3⟩ := least_of n X (fun v => g v / 256 ^ T) v hv hx
        have step : ∀ v u, rk v < T + 1 → dn i rk g v u → g u / 256 ^ T ≤ g v / 256 ^ T ∧ (rk v = T → g u / 256 ^ T < g v / 256 ^ T) := by
          intro v u hrv hdn
          have hp : 256 ^ T = 256 ^ rk v * 256 ^ (T - rk v) := by rw [← Nat.pow_add]; congr 1; omega
          refine ⟨?_, fun e => ?_⟩
          · rw [hp, ← Nat.div_div_eq_div_mul, ← Nat.div_div_eq_div_mul]
            exact Nat.div_le_div_right hdn.1
          · have := hdn.2 (by rw [e]; exact hb)
            rw [e] at this
            exact this
        refine ih (fun u => X u && decide (g u / 256 ^ T = g w / 256 ^ T)) (fun u hu hxu => ?_) w w1 (by simp [w2])
        have hxu : X u = true ∧ g u / 256 ^ T = g w / 256 ^ T := by simpa using hxu
        obtain ⟨hrk, z, z1, z2, z3, z4⟩ := hX u hu hxu.1
        obtain ⟨s1, s2⟩ := step u z hrk (hd u z z3 z4)
        have hz := w3 z z1 z2
        refine ⟨?_, z, z1, ?_, z3, z4⟩
        · apply Classical.byContradiction
          intro h
          have := s2 (by omega)
          omega
        · simp [z2]; omega
      rcases Nat.mod_two_eq_zero_or_one T with e | e
      · exact go 1 f1 (by omega) (fun _ _ _ h => h)
      · exact go 0 f0 (by omega) (fun _ _ h _ => h)
  intro v hv a b
  refine key 6 (fun v => S0 v && S1 v) (fun v hv h => ?_) v hv (bat a b)
  have h : S0 v = true ∧ S1 v = true := by simpa using h
  obtain ⟨-, c1, c2⟩ := h0 v hv h.1
  obtain ⟨-, d1, d2⟩ := h1 v hv h.2
  refine ⟨hr v hv, ?_⟩
  rcases ho v hv with e | e
  · obtain ⟨u, k1, k2, k3, k4⟩ := c1 e
    obtain ⟨k5, k6⟩ := d2 (by omega) u k1 k2 rfl
    exact ⟨u, k1, bat k3 k5, k4, k6⟩
  · obtain ⟨u, k1, k2, k3, k4⟩ := d1 e
    obtain ⟨k5, k6⟩ := c2 (by omega) u k1 k2 rfl
    exact ⟨u, k1, bat k5 k3, k6, k4⟩
