/-! 01: sums of integers, the excess of a flow, the two seals (least cost; greatest violation) -/
def ns_sm (f : Nat → Int) : Nat → Int
  | 0 => 0
  | n + 1 => ns_sm f n + f n
theorem ns_sm_s (f : Nat → Int) (n : Nat) : ns_sm f (n + 1) = ns_sm f n + f n := rfl
theorem ns_sm_0 (f : Nat → Int) : ns_sm f 0 = 0 := rfl
theorem ns_sm_c {f g : Nat → Int} : ∀ n : Nat, (∀ i, i < n → f i = g i) → ns_sm f n = ns_sm g n := by
  intro n
  induction n with
  | zero => intro _; rfl
  | succ n ih =>
    intro h
    rw [ns_sm_s, ns_sm_s, ih (fun i hi => h i (by omega)), h n (by omega)]
theorem ns_sm_add (f g : Nat → Int) (n : Nat) : ns_sm (fun i => f i + g i) n = ns_sm f n + ns_sm g n := by
  induction n with
  | zero => rfl
  | succ n ih => simp only [ns_sm_s, ih]; omega
theorem ns_sm_sub (f g : Nat → Int) (n : Nat) : ns_sm (fun i => f i - g i) n = ns_sm f n - ns_sm g n := by
  induction n with
  | zero => rfl
  | succ n ih => simp only [ns_sm_s, ih]; omega
theorem ns_sm_mul (c : Int) (f : Nat → Int) (n : Nat) : ns_sm (fun i => c * f i) n = c * ns_sm f n := by
  induction n with
  | zero => simp only [ns_sm_0, Int.mul_zero]
  | succ n ih => simp only [ns_sm_s, ih, Int.mul_add]
theorem ns_sm_z {f : Nat → Int} : ∀ n : Nat, (∀ i, i < n → f i = 0) → ns_sm f n = 0 := by
  intro n
  induction n with
  | zero => intro _; rfl
  | succ n ih =>
    intro h
    rw [ns_sm_s, ih (fun i hi => h i (by omega)), h n (by omega)]; rfl
theorem ns_sm_le {f g : Nat → Int} : ∀ n : Nat, (∀ i, i < n → f i ≤ g i) → ns_sm f n ≤ ns_sm g n := by
  intro n
  induction n with
  | zero => intro _; exact Int.le_refl _
  | succ n ih =>
    intro h
    have a := ih (fun i hi => h i (by omega))
    have b := h n (by omega)
    rw [ns_sm_s, ns_sm_s]; omega
theorem ns_sm_nn {f : Nat → Int} (n : Nat) (h : ∀ i, i < n → 0 ≤ f i) : 0 ≤ ns_sm f n := by
  have a := ns_sm_le (f := fun _ => 0) (g := f) n h
  rw [ns_sm_z (f := fun _ => 0) n (fun _ _ => rfl)] at a
  exact a
theorem ns_sm_eq {f g : Nat → Int} : ∀ n : Nat, (∀ i, i < n → f i ≤ g i) → ns_sm g n ≤ ns_sm f n → ∀ i, i < n → f i = g i := by
  intro n
  induction n with
  | zero => intro _ _ i hi; omega
  | succ n ih =>
    intro h k i hi
    have a := ns_sm_le (f := f) (g := g) n (fun i hi => h i (by omega))
    have b := h n (by omega)
    rw [ns_sm_s, ns_sm_s] at k
    by_cases e : i = n
    · rw [e]; omega
    · exact ih (fun i hi => h i (by omega)) (by omega) i (by omega)
/-- one term is at most the sum of terms that are not negative -/
theorem ns_sm_t {f : Nat → Int} : ∀ n : Nat, (∀ i, i < n → 0 ≤ f i) → ∀ i, i < n → f i ≤ ns_sm f n := by
  intro n
  induction n with
  | zero => intro _ i hi; omega
  | succ n ih =>
    intro h i hi
    have a := ns_sm_nn (f := f) n (fun i hi => h i (by omega))
    have b := h n (by omega)
    rw [ns_sm_s]
    by_cases e : i = n
    · rw [e]; omega
    · have := ih (fun i hi => h i (by omega)) i (by omega)
      omega
theorem ns_sm_u {f g : Nat → Int} (k : Nat) : ∀ n : Nat, k < n → (∀ i, i < n → i ≠ k → g i = f i) → ns_sm g n = ns_sm f n + (g k - f k) := by
  intro n
  induction n with
  | zero => intro hk; omega
  | succ n ih =>
    intro hk h
    rw [ns_sm_s, ns_sm_s]
    by_cases e : k = n
    · rw [ns_sm_c (f := g) (g := f) n (fun i hi => h i (by omega) (by omega)), e]; omega
    · rw [ih (by omega) (fun i hi hn => h i (by omega) hn), h n (by omega) (by omega)]; omega
def ns_ind (a b : Nat) : Int := if a = b then 1 else 0
theorem ns_ind_1 (a : Nat) : ns_ind a a = 1 := if_pos rfl
theorem ns_ind_0 {a b : Nat} (h : a ≠ b) : ns_ind a b = 0 := if_neg h
theorem ns_sm_ind (φ : Nat → Int) (h n : Nat) (hh : h < n) : ns_sm (fun v => φ v * ns_ind h v) n = φ h := by
  have a := ns_sm_u (f := fun _ => 0) (g := fun v => φ v * ns_ind h v) h n hh (fun i _ hn => by
    show φ i * ns_ind h i = 0
    rw [ns_ind_0 (fun e => hn e.symm), Int.mul_zero])
  rw [a, ns_sm_z (f := fun _ => 0) n (fun _ _ => rfl)]
  show 0 + (φ h * ns_ind h h - 0) = φ h
  rw [ns_ind_1, Int.mul_one]; omega
/-- the sum over the nodes, by the arcs -/
theorem ns_swap (n : Nat) (φ : Nat → Int) (hd tl : Nat → Nat) (x : Nat → Int) : ∀ m : Nat, (∀ a, a < m → hd a < n ∧ tl a < n) →
    ns_sm (fun v => φ v * ns_sm (fun a => x a * (ns_ind (hd a) v - ns_ind (tl a) v)) m) n = ns_sm (fun a => x a * (φ (hd a) - φ (tl a))) m := by
  intro m
  induction m with
  | zero =>
    intro _
    exact ns_sm_z n (fun i _ => Int.mul_zero _)
  | succ m ih =>
    intro h
    have hm := h m (by omega)
    rw [ns_sm_s, ← ih (fun a ha => h a (by omega))]
    have e : ∀ v, v < n → φ v * ns_sm (fun a => x a * (ns_ind (hd a) v - ns_ind (tl a) v)) (m + 1) =
        φ v * ns_sm (fun a => x a * (ns_ind (hd a) v - ns_ind (tl a) v)) m + (x m * (φ v * ns_ind (hd m) v) - x m * (φ v * ns_ind (tl m) v)) := by
      intro v _
      rw [ns_sm_s, Int.mul_add, Int.mul_sub, Int.mul_sub, Int.mul_left_comm (φ v) (x m), Int.mul_left_comm (φ v) (x m)]
    rw [ns_sm_c n e, ns_sm_add, ns_sm_sub, ns_sm_mul, ns_sm_mul, ns_sm_ind φ (hd m) n hm.1, ns_sm_ind φ (tl m) n hm.2, Int.mul_sub]
/-- what a node has left: its supply, less what leaves, and what enters -/
def ns_exc (b : Nat → Int) (tl hd : Nat → Nat) (x : Nat → Int) (m v : Nat) : Int := b v + ns_sm (fun a => x a * (ns_ind (hd a) v - ns_ind (tl a) v)) m
theorem ns_exc_sum (n m : Nat) (φ b : Nat → Int) (tl hd : Nat → Nat) (x : Nat → Int) (hr : ∀ a, a < m → hd a < n ∧ tl a < n) :
    ns_sm (fun v => φ v * ns_exc b tl hd x m v) n = ns_sm (fun v => φ v * b v) n + ns_sm (fun a => x a * (φ (hd a) - φ (tl a))) m := by
  rw [← ns_swap n φ hd tl x m hr, ← ns_sm_add]
  exact ns_sm_c n (fun v _ => Int.mul_add _ _ _)
theorem ns_exc_tot {n m : Nat} {b : Nat → Int} {tl hd : Nat → Nat} {x : Nat → Int} (hr : ∀ a, a < m → hd a < n ∧ tl a < n) (hb : ns_sm b n = 0) :
    ns_sm (fun v => ns_exc b tl hd x m v) n = 0 := by
  have a := ns_exc_sum n m (fun _ => 1) b tl hd x hr
  have e1 : ns_sm (fun v => (1 : Int) * ns_exc b tl hd x m v) n = ns_sm (fun v => ns_exc b tl hd x m v) n := ns_sm_c n (fun v _ => Int.one_mul _)
  have e2 : ns_sm (fun v => (1 : Int) * b v) n = ns_sm b n := ns_sm_c n (fun v _ => Int.one_mul _)
  have e3 : ns_sm (fun a => x a * ((1 : Int) - 1)) m = 0 := ns_sm_z m (fun a _ => Int.mul_zero _)
  rw [e1, e2, e3, hb] at a
  exact a
theorem ns_prod {x y c D : Int} (h1 : x < y → D ≤ c) (h2 : y < x → c ≤ D) : c * x + y * D ≤ c * y + x * D := by
  have e : (y - x) * (c - D) = c * y + x * D - (c * x + y * D) := by
    rw [Int.sub_mul, Int.mul_sub, Int.mul_sub, Int.mul_comm y c, Int.mul_comm x c]; omega
  have k : 0 ≤ (y - x) * (c - D) := by
    by_cases a : x < y
    · exact Int.mul_nonneg (by omega) (by have := h1 a; omega)
    · by_cases b : y < x
      · have := Int.mul_nonneg (a := x - y) (b := D - c) (by omega) (by have := h2 b; omega)
        have f : (x - y) * (D - c) = (y - x) * (c - D) := by
          rw [← Int.neg_sub y x, ← Int.neg_sub c D, Int.neg_mul_neg]
        omega
      · have f : y - x = 0 := by omega
        rw [f, Int.zero_mul]; exact Int.le_refl _
  omega
/-- the first seal: a flow with potentials costs no more than another -/
theorem ns_cost {n m : Nat} {tl hd : Nat → Nat} {cap c b x y π : Nat → Int} (hr : ∀ a, a < m → hd a < n ∧ tl a < n)
    (hy : ∀ a, a < m → 0 ≤ y a ∧ y a ≤ cap a)
    (ex : ∀ v, v < n → ns_exc b tl hd x m v = 0) (ey : ∀ v, v < n → ns_exc b tl hd y m v = 0)
    (hp : ∀ a, a < m → (x a < cap a → π (hd a) ≤ π (tl a) + c a) ∧ (0 < x a → π (tl a) ≤ π (hd a) - c a)) :
    ns_sm (fun a => c a * x a) m ≤ ns_sm (fun a => c a * y a) m := by
  have sx := ns_exc_sum n m π b tl hd x hr
  have sy := ns_exc_sum n m π b tl hd y hr
  rw [ns_sm_z n (fun v hv => by show π v * ns_exc b tl hd x m v = 0; rw [ex v hv, Int.mul_zero])] at sx
  rw [ns_sm_z n (fun v hv => by show π v * ns_exc b tl hd y m v = 0; rw [ey v hv, Int.mul_zero])] at sy
  have t := ns_sm_le (f := fun a => c a * x a + y a * (π (hd a) - π (tl a))) (g := fun a => c a * y a + x a * (π (hd a) - π (tl a))) m (fun a ha => by
    have h1 := hp a ha
    have h2 := hy a ha
    exact ns_prod (fun k => by have := h1.1 (by omega); omega) (fun k => by have := h1.2 (by omega); omega))
  rw [ns_sm_add, ns_sm_add] at t
  omega
def ns_ps (z : Int) : Int := if 0 < z then z else 0
theorem ns_ps_nn (z : Int) : 0 ≤ ns_ps z := by unfold ns_ps; split <;> omega
def ns_P (e : Nat → Int) (n : Nat) : Int := ns_sm (fun v => ns_ps (e v)) n
theorem ns_P_nn (e : Nat → Int) (n : Nat) : 0 ≤ ns_P e n := ns_sm_nn n (fun _ _ => ns_ps_nn _)
/-- if none is in excess and the sum is nothing, all are nothing -/
theorem ns_P_0 {e : Nat → Int} {n : Nat} (h : ns_P e n ≤ 0) (hs : ns_sm e n = 0) : ∀ v, v < n → e v = 0 := by
  have a : ∀ v, v < n → e v ≤ 0 := by
    intro v hv
    have := ns_sm_t (f := fun v => ns_ps (e v)) n (fun _ _ => ns_ps_nn _) v hv
    unfold ns_P at h
    have k : ns_ps (e v) ≤ 0 := by
      have : ns_ps (e v) ≤ ns_sm (fun v => ns_ps (e v)) n := this
      omega
    unfold ns_ps at k
    split at k <;> omega
  have z : ns_sm (fun _ => (0 : Int)) n = 0 := ns_sm_z n (fun _ _ => rfl)
  exact ns_sm_eq (f := e) (g := fun _ => 0) n a (by rw [z, hs]; exact Int.le_refl _)
def ns_b1 (w : Bool) : Int := if w = true then 1 else 0
/-- W holds all deficits, no excess, and with a node all that reach it in the residual network -/
def ns_Cl (n m : Nat) (tl hd : Nat → Nat) (cap e x : Nat → Int) (W : Nat → Bool) : Prop :=
  (∀ v, v < n → e v < 0 → W v = true) ∧ (∀ v, v < n → W v = true → e v ≤ 0) ∧
  (∀ a, a < m → x a < cap a → W (hd a) = true → W (tl a) = true) ∧ (∀ a, a < m → 0 < x a → W (tl a) = true → W (hd a) = true)
/-- the second seal: what is left over, and the sets that show it -/
theorem ns_dual {n m : Nat} {tl hd : Nat → Nat} {cap b x y ex ey : Nat → Int} {W : Nat → Bool} (hr : ∀ a, a < m → hd a < n ∧ tl a < n)
    (hy : ∀ a, a < m → 0 ≤ y a ∧ y a ≤ cap a) (hb : ns_sm b n = 0)
    (hex : ∀ v, v < n → ex v = ns_exc b tl hd x m v) (hey : ∀ v, v < n → ey v = ns_exc b tl hd y m v)
    (hc : ns_Cl n m tl hd cap ex x W) : ns_P ex n ≤ ns_P ey n ∧ (ns_P ey n ≤ ns_P ex n → ns_Cl n m tl hd cap ey y W) := by
  obtain ⟨c1, c2, c3, c4⟩ := hc
  have tx : ns_sm ex n = 0 := by rw [ns_sm_c n hex]; exact ns_exc_tot hr hb
  have ty : ns_sm ey n = 0 := by rw [ns_sm_c n hey]; exact ns_exc_tot hr hb
  have sx := ns_exc_sum n m (fun v => ns_b1 (W v)) b tl hd x hr
  have sy := ns_exc_sum n m (fun v => ns_b1 (W v)) b tl hd y hr
  have e1 : ns_sm (fun v => ns_b1 (W v) * ns_exc b tl hd x m v) n = ns_sm (fun v => ex v - ns_ps (ex v)) n := by
    refine ns_sm_c n (fun v hv => ?_)
    show ns_b1 (W v) * ns_exc b tl hd x m v = ex v - ns_ps (ex v)
    rw [← hex v hv]
    unfold ns_b1 ns_ps
    by_cases hw : W v = true
    · have := c2 v hv hw
      rw [if_pos hw, if_neg (by omega), Int.one_mul]; omega
    · have : ¬ ex v < 0 := fun k => hw (c1 v hv k)
      rw [if_neg hw, Int.zero_mul]
      split <;> omega
  rw [e1, ns_sm_sub, tx] at sx
  have t2 : ∀ v, v < n → ey v - ns_ps (ey v) ≤ ns_b1 (W v) * ns_exc b tl hd y m v := by
    intro v hv
    rw [← hey v hv]
    unfold ns_b1 ns_ps
    by_cases hw : W v = true
    · rw [if_pos hw, Int.one_mul]; split <;> omega
    · rw [if_neg hw, Int.zero_mul]; split <;> omega
  have l2 := ns_sm_le n t2
  rw [ns_sm_sub, ty] at l2
  have t3 : ∀ a, a < m → y a * (ns_b1 (W (hd a)) - ns_b1 (W (tl a))) ≤ x a * (ns_b1 (W (hd a)) - ns_b1 (W (tl a))) := by
    intro a ha
    have h1 := hy a ha
    have h3 := c3 a ha
    have h4 := c4 a ha
    unfold ns_b1
    by_cases wh : W (hd a) = true
    · by_cases wt : W (tl a) = true
      · rw [if_pos wh, if_pos wt, Int.sub_self, Int.mul_zero, Int.mul_zero]; exact Int.le_refl _
      · rw [if_pos wh, if_neg wt]
        have : ¬ x a < cap a := fun k => wt (h3 k wh)
        omega
    · by_cases wt : W (tl a) = true
      · rw [if_neg wh, if_pos wt]
        have : ¬ 0 < x a := fun k => wh (h4 k wt)
        omega
      · rw [if_neg wh, if_neg wt, Int.sub_self, Int.mul_zero, Int.mul_zero]; exact Int.le_refl _
  have l3 := ns_sm_le m t3
  have px : ns_P ex n = ns_sm (fun v => ns_ps (ex v)) n := rfl
  have py : ns_P ey n = ns_sm (fun v => ns_ps (ey v)) n := rfl
  refine ⟨by omega, fun hle => ?_⟩
  have q2 := ns_sm_eq n t2 (by rw [ns_sm_sub, ty]; omega)
  have q3 := ns_sm_eq m t3 (by omega)
  refine ⟨fun v hv k => ?_, fun v hv k => ?_, fun a ha k wh => ?_, fun a ha k wt => ?_⟩
  · have := q2 v hv
    rw [← hey v hv] at this
    by_cases hw : W v = true
    · exact hw
    · unfold ns_b1 ns_ps at this
      rw [if_neg hw, Int.zero_mul, if_neg (by omega)] at this
      omega
  · have := q2 v hv
    rw [← hey v hv] at this
    unfold ns_b1 ns_ps at this
    rw [if_pos k, Int.one_mul] at this
    split at this <;> omega
  · by_cases wt : W (tl a) = true
    · exact wt
    · have q := q3 a ha
      unfold ns_b1 at q
      rw [if_pos wh, if_neg wt] at q
      have : ¬ x a < cap a := fun k => wt (c3 a ha k wh)
      omega
  · by_cases wh : W (hd a) = true
    · exact wh
    · have q := q3 a ha
      unfold ns_b1 at q
      rw [if_neg wh, if_pos wt] at q
      have : ¬ 0 < x a := fun k => wh (c4 a ha k wt)
      omega
/-- what is over at first is bounded by supplies and the flow at first -/
theorem ns_P_up {n : Nat} {e e' : Nat → Int} {x : Int} (hx : 0 ≤ x) (hd tl : Nat) (hh : hd < n)
    (h : ∀ v, v < n → e' v = e v + x * (ns_ind hd v - ns_ind tl v)) : ns_P e' n ≤ ns_P e n + x := by
  have t : ∀ v, v < n → ns_ps (e' v) ≤ ns_ps (e v) + x * ns_ind hd v := by
    intro v hv
    rw [h v hv]
    have i1 : ns_ind hd v = 0 ∨ ns_ind hd v = 1 := by unfold ns_ind; split <;> simp
    have i2 : ns_ind tl v = 0 ∨ ns_ind tl v = 1 := by unfold ns_ind; split <;> simp
    rcases i1 with i1 | i1 <;> rcases i2 with i2 | i2 <;> rw [i1, i2] <;> unfold ns_ps <;> split <;> split <;> omega
  have l := ns_sm_le n t
  rw [ns_sm_add, ns_sm_ind (fun _ => x) hd n hh] at l
  exact l
