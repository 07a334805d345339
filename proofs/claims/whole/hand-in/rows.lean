section
/-! 01: sums of integers, the excess of a flow, the two seals (least cost; greatest violation) -/
def ns_sm (f : Nat → Int) : Nat → Int
  | 0 => 0
  | n + 1 => ns_sm f n + f n
theorem ns_sm_s (f : Nat → Int) (n : Nat) : ns_sm f (n + 1) = ns_sm f n + f n := rfl
theorem ns_sm_0 (f : Nat → Int) : ns_sm f 0 = 0 := rfl
theorem ns_sm_c {f g : Nat → Int} : ∀ n : Nat, (∀ i, i < n → f i = g i) → ns_sm f n = ns_sm g n := by
  intro n
  induction n with
  | zero => intro _; rfl
  | succ n ih =>
    intro h
    rw [ns_sm_s, ns_sm_s, ih (fun i hi => h i (by omega)), h n (by omega)]
theorem ns_sm_add (f g : Nat → Int) (n : Nat) : ns_sm (fun i => f i + g i) n = ns_sm f n + ns_sm g n := by
  induction n with
  | zero => rfl
  | succ n ih => simp only [ns_sm_s, ih]; omega
theorem ns_sm_sub (f g : Nat → Int) (n : Nat) : ns_sm (fun i => f i - g i) n = ns_sm f n - ns_sm g n := by
  induction n with
  | zero => rfl
  | succ n ih => simp only [ns_sm_s, ih]; omega
theorem ns_sm_mul (c : Int) (f : Nat → Int) (n : Nat) : ns_sm (fun i => c * f i) n = c * ns_sm f n := by
  induction n with
  | zero => simp only [ns_sm_0, Int.mul_zero]
  | succ n ih => simp only [ns_sm_s, ih, Int.mul_add]
theorem ns_sm_z {f : Nat → Int} : ∀ n : Nat, (∀ i, i < n → f i = 0) → ns_sm f n = 0 := by
  intro n
  induction n with
  | zero => intro _; rfl
  | succ n ih =>
    intro h
    rw [ns_sm_s, ih (fun i hi => h i (by omega)), h n (by omega)]; rfl
theorem ns_sm_le {f g : Nat → Int} : ∀ n : Nat, (∀ i, i < n → f i ≤ g i) → ns_sm f n ≤ ns_sm g n := by
  intro n
  induction n with
  | zero => intro _; exact Int.le_refl _
  | succ n ih =>
    intro h
    have a := ih (fun i hi => h i (by omega))
    have b := h n (by omega)
    rw [ns_sm_s, ns_sm_s]; omega
theorem ns_sm_nn {f : Nat → Int} (n : Nat) (h : ∀ i, i < n → 0 ≤ f i) : 0 ≤ ns_sm f n := by
  have a := ns_sm_le (f := fun _ => 0) (g := f) n h
  rw [ns_sm_z (f := fun _ => 0) n (fun _ _ => rfl)] at a
  exact a
theorem ns_sm_eq {f g : Nat → Int} : ∀ n : Nat, (∀ i, i < n → f i ≤ g i) → ns_sm g n ≤ ns_sm f n → ∀ i, i < n → f i = g i := by
  intro n
  induction n with
  | zero => intro _ _ i hi; omega
  | succ n ih =>
    intro h k i hi
    have a := ns_sm_le (f := f) (g := g) n (fun i hi => h i (by omega))
    have b := h n (by omega)
    rw [ns_sm_s, ns_sm_s] at k
    by_cases e : i = n
    · rw [e]; omega
    · exact ih (fun i hi => h i (by omega)) (by omega) i (by omega)
/-- one term is at most the sum of terms that are not negative -/
theorem ns_sm_t {f : Nat → Int} : ∀ n : Nat, (∀ i, i < n → 0 ≤ f i) → ∀ i, i < n → f i ≤ ns_sm f n := by
  intro n
  induction n with
  | zero => intro _ i hi; omega
  | succ n ih =>
    intro h i hi
    have a := ns_sm_nn (f := f) n (fun i hi => h i (by omega))
    have b := h n (by omega)
    rw [ns_sm_s]
    by_cases e : i = n
    · rw [e]; omega
    · have := ih (fun i hi => h i (by omega)) i (by omega)
      omega
theorem ns_sm_u {f g : Nat → Int} (k : Nat) : ∀ n : Nat, k < n → (∀ i, i < n → i ≠ k → g i = f i) → ns_sm g n = ns_sm f n + (g k - f k) := by
  intro n
  induction n with
  | zero => intro hk; omega
  | succ n ih =>
    intro hk h
    rw [ns_sm_s, ns_sm_s]
    by_cases e : k = n
    · rw [ns_sm_c (f := g) (g := f) n (fun i hi => h i (by omega) (by omega)), e]; omega
    · rw [ih (by omega) (fun i hi hn => h i (by omega) hn), h n (by omega) (by omega)]; omega
def ns_ind (a b : Nat) : Int := if a = b then 1 else 0
theorem ns_ind_1 (a : Nat) : ns_ind a a = 1 := if_pos rfl
theorem ns_ind_0 {a b : Nat} (h : a ≠ b) : ns_ind a b = 0 := if_neg h
theorem ns_sm_ind (φ : Nat → Int) (h n : Nat) (hh : h < n) : ns_sm (fun v => φ v * ns_ind h v) n = φ h := by
  have a := ns_sm_u (f := fun _ => 0) (g := fun v => φ v * ns_ind h v) h n hh (fun i _ hn => by
    show φ i * ns_ind h i = 0
    rw [ns_ind_0 (fun e => hn e.symm), Int.mul_zero])
  rw [a, ns_sm_z (f := fun _ => 0) n (fun _ _ => rfl)]
  show 0 + (φ h * ns_ind h h - 0) = φ h
  rw [ns_ind_1, Int.mul_one]; omega
/-- the sum over the nodes, by the arcs -/
theorem ns_swap (n : Nat) (φ : Nat → Int) (hd tl : Nat → Nat) (x : Nat → Int) : ∀ m : Nat, (∀ a, a < m → hd a < n ∧ tl a < n) →
    ns_sm (fun v => φ v * ns_sm (fun a => x a * (ns_ind (hd a) v - ns_ind (tl a) v)) m) n = ns_sm (fun a => x a * (φ (hd a) - φ (tl a))) m := by
  intro m
  induction m with
  | zero =>
    intro _
    exact ns_sm_z n (fun i _ => Int.mul_zero _)
  | succ m ih =>
    intro h
    have hm := h m (by omega)
    rw [ns_sm_s, ← ih (fun a ha => h a (by omega))]
    have e : ∀ v, v < n → φ v * ns_sm (fun a => x a * (ns_ind (hd a) v - ns_ind (tl a) v)) (m + 1) =
        φ v * ns_sm (fun a => x a * (ns_ind (hd a) v - ns_ind (tl a) v)) m + (x m * (φ v * ns_ind (hd m) v) - x m * (φ v * ns_ind (tl m) v)) := by
      intro v _
      rw [ns_sm_s, Int.mul_add, Int.mul_sub, Int.mul_sub, Int.mul_left_comm (φ v) (x m), Int.mul_left_comm (φ v) (x m)]
    rw [ns_sm_c n e, ns_sm_add, ns_sm_sub, ns_sm_mul, ns_sm_mul, ns_sm_ind φ (hd m) n hm.1, ns_sm_ind φ (tl m) n hm.2, Int.mul_sub]
/-- what a node has left: its supply, less what leaves, and what enters -/
def ns_exc (b : Nat → Int) (tl hd : Nat → Nat) (x : Nat → Int) (m v : Nat) : Int := b v + ns_sm (fun a => x a * (ns_ind (hd a) v - ns_ind (tl a) v)) m
theorem ns_exc_sum (n m : Nat) (φ b : Nat → Int) (tl hd : Nat → Nat) (x : Nat → Int) (hr : ∀ a, a < m → hd a < n ∧ tl a < n) :
    ns_sm (fun v => φ v * ns_exc b tl hd x m v) n = ns_sm (fun v => φ v * b v) n + ns_sm (fun a => x a * (φ (hd a) - φ (tl a))) m := by
  rw [← ns_swap n φ hd tl x m hr, ← ns_sm_add]
  exact ns_sm_c n (fun v _ => Int.mul_add _ _ _)
theorem ns_exc_tot {n m : Nat} {b : Nat → Int} {tl hd : Nat → Nat} {x : Nat → Int} (hr : ∀ a, a < m → hd a < n ∧ tl a < n) (hb : ns_sm b n = 0) :
    ns_sm (fun v => ns_exc b tl hd x m v) n = 0 := by
  have a := ns_exc_sum n m (fun _ => 1) b tl hd x hr
  have e1 : ns_sm (fun v => (1 : Int) * ns_exc b tl hd x m v) n = ns_sm (fun v => ns_exc b tl hd x m v) n := ns_sm_c n (fun v _ => Int.one_mul _)
  have e2 : ns_sm (fun v => (1 : Int) * b v) n = ns_sm b n := ns_sm_c n (fun v _ => Int.one_mul _)
  have e3 : ns_sm (fun a => x a * ((1 : Int) - 1)) m = 0 := ns_sm_z m (fun a _ => Int.mul_zero _)
  rw [e1, e2, e3, hb] at a
  exact a
theorem ns_prod {x y c D : Int} (h1 : x < y → D ≤ c) (h2 : y < x → c ≤ D) : c * x + y * D ≤ c * y + x * D := by
  have e : (y - x) * (c - D) = c * y + x * D - (c * x + y * D) := by
    rw [Int.sub_mul, Int.mul_sub, Int.mul_sub, Int.mul_comm y c, Int.mul_comm x c]; omega
  have k : 0 ≤ (y - x) * (c - D) := by
    by_cases a : x < y
    · exact Int.mul_nonneg (by omega) (by have := h1 a; omega)
    · by_cases b : y < x
      · have := Int.mul_nonneg (a := x - y) (b := D - c) (by omega) (by have := h2 b; omega)
        have f : (x - y) * (D - c) = (y - x) * (c - D) := by
          rw [← Int.neg_sub y x, ← Int.neg_sub c D, Int.neg_mul_neg]
        omega
      · have f : y - x = 0 := by omega
        rw [f, Int.zero_mul]; exact Int.le_refl _
  omega
/-- the first seal: a flow with potentials costs no more than another -/
theorem ns_cost {n m : Nat} {tl hd : Nat → Nat} {cap c b x y π : Nat → Int} (hr : ∀ a, a < m → hd a < n ∧ tl a < n)
    (hy : ∀ a, a < m → 0 ≤ y a ∧ y a ≤ cap a)
    (ex : ∀ v, v < n → ns_exc b tl hd x m v = 0) (ey : ∀ v, v < n → ns_exc b tl hd y m v = 0)
    (hp : ∀ a, a < m → (x a < cap a → π (hd a) ≤ π (tl a) + c a) ∧ (0 < x a → π (tl a) ≤ π (hd a) - c a)) :
    ns_sm (fun a => c a * x a) m ≤ ns_sm (fun a => c a * y a) m := by
  have sx := ns_exc_sum n m π b tl hd x hr
  have sy := ns_exc_sum n m π b tl hd y hr
  rw [ns_sm_z n (fun v hv => by show π v * ns_exc b tl hd x m v = 0; rw [ex v hv, Int.mul_zero])] at sx
  rw [ns_sm_z n (fun v hv => by show π v * ns_exc b tl hd y m v = 0; rw [ey v hv, Int.mul_zero])] at sy
  have t := ns_sm_le (f := fun a => c a * x a + y a * (π (hd a) - π (tl a))) (g := fun a => c a * y a + x a * (π (hd a) - π (tl a))) m (fun a ha => by
    have h1 := hp a ha
    have h2 := hy a ha
    exact ns_prod (fun k => by have := h1.1 (by omega); omega) (fun k => by have := h1.2 (by omega); omega))
  rw [ns_sm_add, ns_sm_add] at t
  omega
def ns_ps (z : Int) : Int := if 0 < z then z else 0
theorem ns_ps_nn (z : Int) : 0 ≤ ns_ps z := by unfold ns_ps; split <;> omega
def ns_P (e : Nat → Int) (n : Nat) : Int := ns_sm (fun v => ns_ps (e v)) n
theorem ns_P_nn (e : Nat → Int) (n : Nat) : 0 ≤ ns_P e n := ns_sm_nn n (fun _ _ => ns_ps_nn _)
/-- if none is in excess and the sum is nothing, all are nothing -/
theorem ns_P_0 {e : Nat → Int} {n : Nat} (h : ns_P e n ≤ 0) (hs : ns_sm e n = 0) : ∀ v, v < n → e v = 0 := by
  have a : ∀ v, v < n → e v ≤ 0 := by
    intro v hv
    have := ns_sm_t (f := fun v => ns_ps (e v)) n (fun _ _ => ns_ps_nn _) v hv
    unfold ns_P at h
    have k : ns_ps (e v) ≤ 0 := by
      have : ns_ps (e v) ≤ ns_sm (fun v => ns_ps (e v)) n := this
      omega
    unfold ns_ps at k
    split at k <;> omega
  have z : ns_sm (fun _ => (0 : Int)) n = 0 := ns_sm_z n (fun _ _ => rfl)
  exact ns_sm_eq (f := e) (g := fun _ => 0) n a (by rw [z, hs]; exact Int.le_refl _)
def ns_b1 (w : Bool) : Int := if w = true then 1 else 0
/-- W holds all deficits, no excess, and with a node all that reach it in the residual network -/
def ns_Cl (n m : Nat) (tl hd : Nat → Nat) (cap e x : Nat → Int) (W : Nat → Bool) : Prop :=
  (∀ v, v < n → e v < 0 → W v = true) ∧ (∀ v, v < n → W v = true → e v ≤ 0) ∧
  (∀ a, a < m → x a < cap a → W (hd a) = true → W (tl a) = true) ∧ (∀ a, a < m → 0 < x a → W (tl a) = true → W (hd a) = true)
/-- the second seal: what is left over, and the sets that show it -/
theorem ns_dual {n m : Nat} {tl hd : Nat → Nat} {cap b x y ex ey : Nat → Int} {W : Nat → Bool} (hr : ∀ a, a < m → hd a < n ∧ tl a < n)
    (hy : ∀ a, a < m → 0 ≤ y a ∧ y a ≤ cap a) (hb : ns_sm b n = 0)
    (hex : ∀ v, v < n → ex v = ns_exc b tl hd x m v) (hey : ∀ v, v < n → ey v = ns_exc b tl hd y m v)
    (hc : ns_Cl n m tl hd cap ex x W) : ns_P ex n ≤ ns_P ey n ∧ (ns_P ey n ≤ ns_P ex n → ns_Cl n m tl hd cap ey y W) := by
  obtain ⟨c1, c2, c3, c4⟩ := hc
  have tx : ns_sm ex n = 0 := by rw [ns_sm_c n hex]; exact ns_exc_tot hr hb
  have ty : ns_sm ey n = 0 := by rw [ns_sm_c n hey]; exact ns_exc_tot hr hb
  have sx := ns_exc_sum n m (fun v => ns_b1 (W v)) b tl hd x hr
  have sy := ns_exc_sum n m (fun v => ns_b1 (W v)) b tl hd y hr
  have e1 : ns_sm (fun v => ns_b1 (W v) * ns_exc b tl hd x m v) n = ns_sm (fun v => ex v - ns_ps (ex v)) n := by
    refine ns_sm_c n (fun v hv => ?_)
    show ns_b1 (W v) * ns_exc b tl hd x m v = ex v - ns_ps (ex v)
    rw [← hex v hv]
    unfold ns_b1 ns_ps
    by_cases hw : W v = true
    · have := c2 v hv hw
      rw [if_pos hw, if_neg (by omega), Int.one_mul]; omega
    · have : ¬ ex v < 0 := fun k => hw (c1 v hv k)
      rw [if_neg hw, Int.zero_mul]
      split <;> omega
  rw [e1, ns_sm_sub, tx] at sx
  have t2 : ∀ v, v < n → ey v - ns_ps (ey v) ≤ ns_b1 (W v) * ns_exc b tl hd y m v := by
    intro v hv
    rw [← hey v hv]
    unfold ns_b1 ns_ps
    by_cases hw : W v = true
    · rw [if_pos hw, Int.one_mul]; split <;> omega
    · rw [if_neg hw, Int.zero_mul]; split <;> omega
  have l2 := ns_sm_le n t2
  rw [ns_sm_sub, ty] at l2
  have t3 : ∀ a, a < m → y a * (ns_b1 (W (hd a)) - ns_b1 (W (tl a))) ≤ x a * (ns_b1 (W (hd a)) - ns_b1 (W (tl a))) := by
    intro a ha
    have h1 := hy a ha
    have h3 := c3 a ha
    have h4 := c4 a ha
    unfold ns_b1
    by_cases wh : W (hd a) = true
    · by_cases wt : W (tl a) = true
      · rw [if_pos wh, if_pos wt, Int.sub_self, Int.mul_zero, Int.mul_zero]; exact Int.le_refl _
      · rw [if_pos wh, if_neg wt]
        have : ¬ x a < cap a := fun k => wt (h3 k wh)
        omega
    · by_cases wt : W (tl a) = true
      · rw [if_neg wh, if_pos wt]
        have : ¬ 0 < x a := fun k => wh (h4 k wt)
        omega
      · rw [if_neg wh, if_neg wt, Int.sub_self, Int.mul_zero, Int.mul_zero]; exact Int.le_refl _
  have l3 := ns_sm_le m t3
  have px : ns_P ex n = ns_sm (fun v => ns_ps (ex v)) n := rfl
  have py : ns_P ey n = ns_sm (fun v => ns_ps (ey v)) n := rfl
  refine ⟨by omega, fun hle => ?_⟩
  have q2 := ns_sm_eq n t2 (by rw [ns_sm_sub, ty]; omega)
  have q3 := ns_sm_eq m t3 (by omega)
  refine ⟨fun v hv k => ?_, fun v hv k => ?_, fun a ha k wh => ?_, fun a ha k wt => ?_⟩
  · have := q2 v hv
    rw [← hey v hv] at this
    by_cases hw : W v = true
    · exact hw
    · unfold ns_b1 ns_ps at this
      rw [if_neg hw, Int.zero_mul, if_neg (by omega)] at this
      omega
  · have := q2 v hv
    rw [← hey v hv] at this
    unfold ns_b1 ns_ps at this
    rw [if_pos k, Int.one_mul] at this
    split at this <;> omega
  · by_cases wt : W (tl a) = true
    · exact wt
    · have q := q3 a ha
      unfold ns_b1 at q
      rw [if_pos wh, if_neg wt] at q
      have : ¬ x a < cap a := fun k => wt (c3 a ha k wh)
      omega
  · by_cases wh : W (hd a) = true
    · exact wh
    · have q := q3 a ha
      unfold ns_b1 at q
      rw [if_neg wh, if_pos wt] at q
      have : ¬ 0 < x a := fun k => wh (c4 a ha k wt)
      omega
/-- what is over at first is bounded by supplies and the flow at first -/
theorem ns_P_up {n : Nat} {e e' : Nat → Int} {x : Int} (hx : 0 ≤ x) (hd tl : Nat) (hh : hd < n)
    (h : ∀ v, v < n → e' v = e v + x * (ns_ind hd v - ns_ind tl v)) : ns_P e' n ≤ ns_P e n + x := by
  have t : ∀ v, v < n → ns_ps (e' v) ≤ ns_ps (e v) + x * ns_ind hd v := by
    intro v hv
    rw [h v hv]
    have i1 : ns_ind hd v = 0 ∨ ns_ind hd v = 1 := by unfold ns_ind; split <;> simp
    have i2 : ns_ind tl v = 0 ∨ ns_ind tl v = 1 := by unfold ns_ind; split <;> simp
    rcases i1 with i1 | i1 <;> rcases i2 with i2 | i2 <;> rw [i1, i2] <;> unfold ns_ps <;> split <;> split <;> omega
  have l := ns_sm_le n t
  rw [ns_sm_add, ns_sm_ind (fun _ => x) hd n hh] at l
  exact l
end
section
/-! 02: shortest paths over an abstract residual graph: edges in pairs 2j, 2j+1, both ways -/
def ns_fl (e : Nat) : Nat := if e % 2 = 0 then e + 1 else e - 1
theorem ns_fl_fl (e : Nat) : ns_fl (ns_fl e) = e := by unfold ns_fl; split <;> split <;> omega
theorem ns_fl_lt {e H : Nat} (h : e < 2 * H) : ns_fl e < 2 * H := by unfold ns_fl; split <;> omega
theorem ns_fl_ne (e : Nat) : ns_fl e ≠ e := by unfold ns_fl; split <;> omega
def ns_up {α : Type} (f : Nat → α) (k : Nat) (x : α) : Nat → α := fun j => if j = k then x else f j
theorem ns_us {α : Type} {f : Nat → α} {k : Nat} {x : α} : ns_up f k x k = x := if_pos rfl
theorem ns_un {α : Type} {f : Nat → α} {k j : Nat} {x : α} (h : j ≠ k) : ns_up f k x j = f j := if_neg h
def ns_G (V H : Nat) (fr tt : Nat → Nat) (ln : Nat → Int) : Prop := ∀ e, e < 2 * H →
  fr e < V ∧ tt e < V ∧ fr e ≠ tt e ∧ fr (ns_fl e) = tt e ∧ tt (ns_fl e) = fr e ∧ ln (ns_fl e) = - ln e ∧ -50 ≤ ln e ∧ ln e ≤ 50
def ns_Pot (H : Nat) (fr tt : Nat → Nat) (ln rc π : Nat → Int) : Prop := ∀ e, e < 2 * H → 0 < rc e → π (tt e) ≤ π (fr e) + ln e
/-- distances and parents at any time of a search -/
def ns_B (V H : Nat) (fr tt : Nat → Nat) (ln rc : Nat → Int) (U : Int) (src : Nat → Bool) (hi : Int) (d : Nat → Int) (p : Nat → Option Nat) : Prop :=
  (∀ v, v < V → -hi ≤ d v ∧ (d v = U ∨ d v ≤ hi)) ∧
  (∀ v, v < V → ∀ e, p v = some e → e < 2 * H ∧ 0 < rc e ∧ tt e = v ∧ d (fr e) ≠ U ∧ d (fr e) + ln e ≤ d v ∧ d v ≠ U) ∧
  (∀ v, v < V → p v = none → d v = U ∨ (src v = true ∧ d v = 0)) ∧
  (∀ v, v < V → src v = true → d v ≤ 0) ∧
  (∃ ρ : Nat → Nat, ∀ v, v < V → ∀ e, p v = some e → ρ (fr e) < ρ v)
theorem ns_B_mono {V H : Nat} {fr tt : Nat → Nat} {ln rc : Nat → Int} {U : Int} {src : Nat → Bool} {hi hi' : Int} {d : Nat → Int} {p : Nat → Option Nat}
    (h : ns_B V H fr tt ln rc U src hi d p) (hh : hi ≤ hi') : ns_B V H fr tt ln rc U src hi' d p := by
  obtain ⟨h1, h2⟩ := h
  refine ⟨fun v hv => ?_, h2⟩
  have := h1 v hv
  omega
theorem ns_B_upd {V H : Nat} {fr tt : Nat → Nat} {ln rc π : Nat → Int} {U : Int} {src : Nat → Bool} {hi : Int} {d : Nat → Int} {p : Nat → Option Nat} {e : Nat}
    (hG : ns_G V H fr tt ln) (hP : ns_Pot H fr tt ln rc π) (hB : ns_B V H fr tt ln rc U src hi d p) (hU : hi + 50 < U) (he : e < 2 * H) (hr : 0 < rc e)
    (hn : d (fr e) ≠ U) (hl : d (fr e) + ln e < d (tt e)) :
    ns_B V H fr tt ln rc U src (hi + 50) (ns_up d (tt e) (d (fr e) + ln e)) (ns_up p (tt e) (some e)) := by
  obtain ⟨h1, h2, h3, h4, ρ, h5⟩ := hB
  obtain ⟨g1, g2, g3, g4, g5, g6, g7, g8⟩ := hG e he
  have hu := h1 (fr e) g1
  have hv := h1 (tt e) g2
  have hp := hP e he hr
  refine ⟨fun w hw => ?_, fun w hw e' he' => ?_, fun w hw hp' => ?_, fun w hw hs => ?_, fun w => if d w - π w < d (tt e) - π (tt e) then ρ w else ρ w + ρ (fr e) + 1, fun w hw e' he' => ?_⟩
  · by_cases hwv : w = tt e
    · rw [hwv, ns_us]; omega
    · rw [ns_un hwv]
      have := h1 w hw
      omega
  · by_cases hwv : w = tt e
    · subst hwv
      rw [ns_us] at he'
      cases he'
      rw [ns_us, ns_un g3]
      refine ⟨he, hr, rfl, hn, Int.le_refl _, by omega⟩
    · rw [ns_un hwv] at he'
      obtain ⟨a1, a2, a3, a4, a5, a6⟩ := h2 w hw e' he'
      rw [ns_un hwv]
      by_cases hf : fr e' = tt e
      · rw [hf, ns_us]
        rw [hf] at a4 a5
        refine ⟨a1, a2, a3, by omega, by omega, a6⟩
      · rw [ns_un hf]
        exact ⟨a1, a2, a3, a4, a5, a6⟩
  · by_cases hwv : w = tt e
    · subst hwv
      rw [ns_us] at hp'
      cases hp'
    · rw [ns_un hwv] at hp' ⊢
      exact h3 w hw hp'
  · by_cases hwv : w = tt e
    · subst hwv
      rw [ns_us]
      have := h4 (tt e) hw hs
      omega
    · rw [ns_un hwv]
      exact h4 w hw hs
  · dsimp only
    have hu' : d (fr e) - π (fr e) < d (tt e) - π (tt e) := by omega
    by_cases hwv : w = tt e
    · subst hwv
      rw [ns_us] at he'
      cases he'
      rw [if_pos hu', if_neg (Int.lt_irrefl _)]
      omega
    · rw [ns_un hwv] at he'
      have b := h5 w hw e' he'
      obtain ⟨a1, a2, a3, a4, a5, a6⟩ := h2 w hw e' he'
      have c := hP e' a1 a2
      rw [a3] at c
      by_cases hk : d w - π w < d (tt e) - π (tt e)
      · rw [if_pos hk, if_pos (by omega)]; exact b
      · rw [if_neg hk]
        split <;> omega
theorem ns_B_0 {V H : Nat} {fr tt : Nat → Nat} {ln rc : Nat → Int} {U : Int} {src : Nat → Bool} {d : Nat → Int} {p : Nat → Option Nat}
    (hU : 0 < U) (h1 : ∀ v, v < V → src v = true → d v = 0) (h2 : ∀ v, v < V → ¬ src v = true → d v = U) (h3 : ∀ v, v < V → p v = none) : ns_B V H fr tt ln rc U src 0 d p := by
  refine ⟨fun v hv => ?_, fun v hv e he => ?_, fun v hv _ => ?_, fun v hv hs => ?_, fun _ => 0, fun v hv e he => ?_⟩
  · by_cases hs : src v = true
    · have := h1 v hv hs; omega
    · have := h2 v hv hs; omega
  · rw [h3 v hv] at he; cases he
  · by_cases hs : src v = true
    · exact Or.inr ⟨hs, h1 v hv hs⟩
    · exact Or.inl (h2 v hv hs)
  · have := h1 v hv hs; omega
  · rw [h3 v hv] at he; cases he
theorem ns_lmin (f : Nat → Int) : ∀ l : List Nat, l ≠ [] → ∃ w, w ∈ l ∧ ∀ w', w' ∈ l → f w ≤ f w' := by
  intro l
  induction l with
  | nil => intro h; exact absurd rfl h
  | cons a l ih =>
    intro _
    by_cases hl : l = []
    · subst hl
      refine ⟨a, by simp, fun w' hw => ?_⟩
      rw [List.mem_singleton] at hw
      rw [hw]; exact Int.le_refl _
    · obtain ⟨w, hw, hm⟩ := ih hl
      by_cases h : f a ≤ f w
      · refine ⟨a, by simp, fun w' hw' => ?_⟩
        rcases List.mem_cons.mp hw' with h' | h'
        · rw [h']; exact Int.le_refl _
        · exact Int.le_trans h (hm w' h')
      · refine ⟨w, List.mem_cons_of_mem _ hw, fun w' hw' => ?_⟩
        rcases List.mem_cons.mp hw' with h' | h'
        · rw [h']; omega
        · exact hm w' h'
/-- all edges below i hold: no distance can be bettered by them -/
def ns_C (H : Nat) (fr tt : Nat → Nat) (ln rc : Nat → Int) (U : Int) (i : Nat) (d : Nat → Int) : Prop :=
  ∀ e, e < 2 * H → e < i → 0 < rc e → d (fr e) = U ∨ d (tt e) ≤ d (fr e) + ln e
/-- at a round's head: the nodes outside l are settled -/
def ns_R (V H : Nat) (fr tt : Nat → Nat) (ln rc π : Nat → Int) (U : Int) (l : List Nat) (d : Nat → Int) : Prop :=
  (∀ u, u < V → u ∉ l → ∀ e, e < 2 * H → 0 < rc e → fr e = u → d u = U ∨ d (tt e) ≤ d u + ln e) ∧
  (∀ u, u < V → u ∉ l → ∀ w, w ∈ l → d u - π u ≤ d w - π w)
/-- within a round: w is the next to be settled -/
def ns_M (V H : Nat) (fr tt : Nat → Nat) (ln rc π : Nat → Int) (U : Int) (l : List Nat) (w : Nat) (c : Int) (i : Nat) (d : Nat → Int) : Prop :=
  (∀ u, u < V → u ∉ l → ∀ e, e < 2 * H → 0 < rc e → fr e = u → d u = U ∨ d (tt e) ≤ d u + ln e) ∧
  (∀ u, u < V → u ∉ l → d u - π u ≤ c) ∧ (∀ w', w' ∈ l → c ≤ d w' - π w') ∧ d w - π w = c ∧
  (∀ e, e < 2 * H → e < i → 0 < rc e → fr e = w → d w = U ∨ d (tt e) ≤ d w + ln e)
theorem ns_R_0 {V H : Nat} {fr tt : Nat → Nat} {ln rc π : Nat → Int} {U : Int} {d : Nat → Int} : ns_R V H fr tt ln rc π U (List.range V) d :=
  ⟨fun u hu hl => absurd (List.mem_range.mpr hu) hl, fun u hu hl => absurd (List.mem_range.mpr hu) hl⟩
theorem ns_R_M {V H : Nat} {fr tt : Nat → Nat} {ln rc π : Nat → Int} {U : Int} {l : List Nat} {d : Nat → Int} (h : ns_R V H fr tt ln rc π U l d) (hl : l ≠ []) :
    ∃ w c, w ∈ l ∧ ns_M V H fr tt ln rc π U l w c 0 d := by
  obtain ⟨w, hw, hm⟩ := ns_lmin (fun w => d w - π w) l hl
  exact ⟨w, d w - π w, hw, h.1, fun u hu hn => h.2 u hu hn w hw, hm, rfl, fun e _ h0 => absurd h0 (Nat.not_lt_zero _)⟩
theorem ns_M_R {V H : Nat} {fr tt : Nat → Nat} {ln rc π : Nat → Int} {U : Int} {l : List Nat} {d : Nat → Int} {w : Nat} {c : Int}
    (h : ns_M V H fr tt ln rc π U l w c (2 * H) d) : ns_R V H fr tt ln rc π U (l.erase w) d := by
  obtain ⟨h1, h2, h3, h4, h5⟩ := h
  refine ⟨fun u hu hn e he hr hf => ?_, fun u hu hn w' hw' => ?_⟩
  · by_cases e' : u = w
    · subst e'
      exact h5 e he he hr hf
    · exact h1 u hu (fun k => hn ((List.mem_erase_of_ne e').mpr k)) e he hr hf
  · have a := h3 w' (List.mem_of_mem_erase hw')
    by_cases e' : u = w
    · subst e'; omega
    · have := h2 u hu (fun k => hn ((List.mem_erase_of_ne e').mpr k))
      omega
theorem ns_R_C {V H : Nat} {fr tt : Nat → Nat} {ln rc π : Nat → Int} {U : Int} {l : List Nat} {d : Nat → Int} (hG : ns_G V H fr tt ln) (h : ns_R V H fr tt ln rc π U l d) (hl : l.length = 0) :
    ns_C H fr tt ln rc U (2 * H) d := by
  intro e he _ hr
  have e0 : l = [] := List.eq_nil_of_length_eq_zero hl
  subst e0
  exact h.1 (fr e) (hG e he).1 (by simp) e he hr rfl
theorem ns_M_upd {V H : Nat} {fr tt : Nat → Nat} {ln rc π : Nat → Int} {U : Int} {l : List Nat} {d : Nat → Int} {w : Nat} {c : Int} {e : Nat}
    (hG : ns_G V H fr tt ln) (hP : ns_Pot H fr tt ln rc π) (h : ns_M V H fr tt ln rc π U l w c e d) (he : e < 2 * H) (hr : 0 < rc e)
    (hn : d (fr e) ≠ U) (hl : d (fr e) + ln e < d (tt e)) :
    ns_M V H fr tt ln rc π U l w c (e + 1) (ns_up d (tt e) (d (fr e) + ln e)) := by
  obtain ⟨h1, h2, h3, h4, h5⟩ := h
  obtain ⟨g1, g2, g3, g4, g5, g6, g7, g8⟩ := hG e he
  have hp := hP e he hr
  have ul : fr e ∈ l := by
    by_cases k : fr e ∈ l
    · exact k
    · have := h1 (fr e) g1 k e he hr rfl
      omega
  have uc := h3 (fr e) ul
  have vl : tt e ∈ l := by
    by_cases k : tt e ∈ l
    · exact k
    · have := h2 (tt e) g2 k
      omega
  have vw : w ≠ tt e := by
    intro k
    rw [k] at h4
    omega
  have ne : ∀ u, u ∉ l → u ≠ tt e := fun u hu k => hu (k ▸ vl)
  refine ⟨fun u hu hn' e' he' hr' hf => ?_, fun u hu hn' => ?_, fun w' hw' => ?_, ?_, fun e' he' hi hr' hf => ?_⟩
  · rw [ns_un (ne u hn')]
    have a := h1 u hu hn' e' he' hr' hf
    by_cases k : tt e' = tt e
    · rw [k] at a ⊢
      rw [ns_us]; omega
    · rw [ns_un k]; exact a
  · rw [ns_un (ne u hn')]; exact h2 u hu hn'
  · by_cases k : w' = tt e
    · rw [k, ns_us]; omega
    · rw [ns_un k]; exact h3 w' hw'
  · rw [ns_un vw]; exact h4
  · rw [ns_un vw]
    by_cases k : e' = e
    · rw [k, ns_us]
      rw [k] at hf
      rw [← hf]
      exact Or.inr (Int.le_refl _)
    · have a := h5 e' he' (by omega) hr' hf
      by_cases k : tt e' = tt e
      · rw [k] at a ⊢
        rw [ns_us]; omega
      · rw [ns_un k]; exact a
theorem ns_M_no {V H : Nat} {fr tt : Nat → Nat} {ln rc π : Nat → Int} {U : Int} {l : List Nat} {d : Nat → Int} {w : Nat} {c : Int} {e : Nat}
    (h : ns_M V H fr tt ln rc π U l w c e d) (hn : 0 < rc e → d (fr e) = U ∨ d (tt e) ≤ d (fr e) + ln e) :
    ns_M V H fr tt ln rc π U l w c (e + 1) d := by
  obtain ⟨h1, h2, h3, h4, h5⟩ := h
  refine ⟨h1, h2, h3, h4, fun e' he' hi hr' hf => ?_⟩
  by_cases k : e' = e
  · rw [k] at hr' hf ⊢
    rw [← hf]
    exact hn hr'
  · exact h5 e' he' (by omega) hr' hf
/-- a search within a round, at edge i -/
def ns_J (V H : Nat) (fr tt : Nat → Nat) (ln rc π : Nat → Int) (U : Int) (src : Nat → Bool) (hi : Int) (l : List Nat) (w : Nat) (c : Int) (i : Nat) (ch : Bool) (d : Nat → Int) (p : Nat → Option Nat) : Prop :=
  ns_B V H fr tt ln rc U src (hi + 50 * i) d p ∧ ns_M V H fr tt ln rc π U l w c i d ∧ (ch = false → ns_C H fr tt ln rc U i d)
theorem ns_J_upd {V H : Nat} {fr tt : Nat → Nat} {ln rc π : Nat → Int} {U : Int} {src : Nat → Bool} {hi : Int} {l : List Nat} {w : Nat} {c : Int} {e : Nat} {ch : Bool} {d : Nat → Int} {p : Nat → Option Nat}
    (hG : ns_G V H fr tt ln) (hP : ns_Pot H fr tt ln rc π) (h : ns_J V H fr tt ln rc π U src hi l w c e ch d p) (hU : hi + 50 * e + 50 < U) (he : e < 2 * H) (hr : 0 < rc e)
    (hn : d (fr e) ≠ U) (hl : d (fr e) + ln e < d (tt e)) :
    ns_J V H fr tt ln rc π U src hi l w c (e + 1) true (ns_up d (tt e) (d (fr e) + ln e)) (ns_up p (tt e) (some e)) := by
  obtain ⟨h1, h2, h3⟩ := h
  refine ⟨ns_B_mono (ns_B_upd hG hP h1 hU he hr hn hl) (by omega), ns_M_upd hG hP h2 he hr hn hl, fun k => by cases k⟩
theorem ns_J_no {V H : Nat} {fr tt : Nat → Nat} {ln rc π : Nat → Int} {U : Int} {src : Nat → Bool} {hi : Int} {l : List Nat} {w : Nat} {c : Int} {e : Nat} {ch : Bool} {d : Nat → Int} {p : Nat → Option Nat}
    (h : ns_J V H fr tt ln rc π U src hi l w c e ch d p) (hn : 0 < rc e → d (fr e) = U ∨ d (tt e) ≤ d (fr e) + ln e) :
    ns_J V H fr tt ln rc π U src hi l w c (e + 1) ch d p := by
  obtain ⟨h1, h2, h3⟩ := h
  refine ⟨ns_B_mono h1 (by omega), ns_M_no h2 hn, fun k e' he' hi hr' => ?_⟩
  by_cases k' : e' = e
  · rw [k'] at hr' ⊢; exact hn hr'
  · exact h3 k e' he' (by omega) hr'
/-- a search at the head of round r -/
def ns_K (V H : Nat) (fr tt : Nat → Nat) (ln rc π : Nat → Int) (U : Int) (src : Nat → Bool) (r : Nat) (ch : Bool) (d : Nat → Int) (p : Nat → Option Nat) : Prop :=
  ns_B V H fr tt ln rc U src (12000 * r) d p ∧ (ch = true → ∃ l : List Nat, l.length + r = V ∧ ns_R V H fr tt ln rc π U l d) ∧ (ch = false → ns_C H fr tt ln rc U (2 * H) d)
theorem ns_K_J {V H : Nat} {fr tt : Nat → Nat} {ln rc π : Nat → Int} {U : Int} {src : Nat → Bool} {r : Nat} {d : Nat → Int} {p : Nat → Option Nat}
    (h : ns_K V H fr tt ln rc π U src r true d p) (hr : r < V) : ∃ l w c, l.length + r = V ∧ w ∈ l ∧ ns_J V H fr tt ln rc π U src (12000 * r) l w c 0 false d p := by
  obtain ⟨h1, h2, h3⟩ := h
  obtain ⟨l, hl, hR⟩ := h2 rfl
  obtain ⟨w, c, hw, hM⟩ := ns_R_M hR (by intro k; rw [k] at hl; simp at hl; omega)
  exact ⟨l, w, c, hl, hw, ns_B_mono h1 (by omega), hM, fun _ e _ h0 => absurd h0 (Nat.not_lt_zero _)⟩
theorem ns_J_K {V H : Nat} {fr tt : Nat → Nat} {ln rc π : Nat → Int} {U : Int} {src : Nat → Bool} {r : Nat} {d : Nat → Int} {p : Nat → Option Nat} {l : List Nat} {w : Nat} {c : Int} {ch : Bool}
    (h : ns_J V H fr tt ln rc π U src (12000 * r) l w c (2 * H) ch d p) (hH : H ≤ 120) (hl : l.length + r = V) (hw : w ∈ l) : ns_K V H fr tt ln rc π U src (r + 1) ch d p := by
  obtain ⟨h1, h2, h3⟩ := h
  refine ⟨ns_B_mono h1 (by omega), fun _ => ⟨l.erase w, ?_, ns_M_R h2⟩, h3⟩
  rw [List.length_erase_of_mem hw]
  have : 0 < l.length := List.length_pos_of_mem hw
  omega
theorem ns_K_0 {V H : Nat} {fr tt : Nat → Nat} {ln rc π : Nat → Int} {U : Int} {src : Nat → Bool} {d : Nat → Int} {p : Nat → Option Nat}
    (hU : 0 < U) (h1 : ∀ v, v < V → src v = true → d v = 0) (h2 : ∀ v, v < V → ¬ src v = true → d v = U) (h3 : ∀ v, v < V → p v = none) : ns_K V H fr tt ln rc π U src 0 true d p :=
  ⟨ns_B_mono (ns_B_0 hU h1 h2 h3) (by omega), fun _ => ⟨List.range V, by simp, ns_R_0⟩, fun k => by cases k⟩
/-- the search's end -/
theorem ns_K_C {V H : Nat} {fr tt : Nat → Nat} {ln rc π : Nat → Int} {U : Int} {src : Nat → Bool} {r : Nat} {ch : Bool} {d : Nat → Int} {p : Nat → Option Nat}
    (hG : ns_G V H fr tt ln) (h : ns_K V H fr tt ln rc π U src r ch d p) (he : ch = false ∨ r = V) : ns_C H fr tt ln rc U (2 * H) d := by
  obtain ⟨h1, h2, h3⟩ := h
  cases ch with
  | false => exact h3 rfl
  | true =>
    obtain ⟨l, hl, hR⟩ := h2 rfl
    have : r = V := by
      rcases he with k | k
      · cases k
      · exact k
    exact ns_R_C hG hR (by omega)
end
section
/-! 03: the path by the parents, and a push along it -/
def ns_path (fr : Nat → Nat) (p : Nat → Option Nat) (r : Nat) : Nat → List Nat → Prop
  | v, [] => v = r ∧ p v = none
  | v, e :: es => p v = some e ∧ ns_path fr p r (fr e) es
theorem ns_path_ex {V H : Nat} {fr tt : Nat → Nat} {ln rc : Nat → Int} {U : Int} {src : Nat → Bool} {hi : Int} {d : Nat → Int} {p : Nat → Option Nat} {ρ : Nat → Nat}
    (hG : ns_G V H fr tt ln) (hB : ns_B V H fr tt ln rc U src hi d p) (hρ : ∀ v, v < V → ∀ e, p v = some e → ρ (fr e) < ρ v) :
    ∀ (k v : Nat) (l : List Nat), ρ v ≤ k → v < V → d v ≠ U → (∀ u, u < V → ρ u ≤ ρ v → u ∈ l) →
      ∃ es r, ns_path fr p r v es ∧ es.length < l.length ∧ r < V ∧ src r = true := by
  intro k
  induction k with
  | zero =>
    intro v l hk hv hd hl
    have hvl := hl v hv (Nat.le_refl _)
    cases hp : p v with
    | none =>
      refine ⟨[], v, ⟨rfl, hp⟩, List.length_pos_of_mem hvl, hv, ?_⟩
      rcases hB.2.2.1 v hv hp with k | k
      · exact absurd k hd
      · exact k.1
    | some e =>
      have := hρ v hv e hp
      omega
  | succ k ih =>
    intro v l hk hv hd hl
    have hvl := hl v hv (Nat.le_refl _)
    cases hp : p v with
    | none =>
      refine ⟨[], v, ⟨rfl, hp⟩, List.length_pos_of_mem hvl, hv, ?_⟩
      rcases hB.2.2.1 v hv hp with k | k
      · exact absurd k hd
      · exact k.1
    | some e =>
      have h1 := hρ v hv e hp
      obtain ⟨a1, a2, a3, a4, a5, a6⟩ := hB.2.1 v hv e hp
      obtain ⟨es, r, b1, b2, b3, b4⟩ := ih (fr e) (l.erase v) (by omega) (hG e a1).1 a4 (fun u hu hr => by
        have hne : u ≠ v := by intro k; rw [k] at hr; omega
        exact (List.mem_erase_of_ne hne).mpr (hl u hu (by omega)))
      refine ⟨e :: es, r, ⟨hp, b1⟩, ?_, b3, b4⟩
      rw [List.length_erase_of_mem hvl] at b2
      simp only [List.length_cons]
      omega
theorem ns_path_of {V H : Nat} {fr tt : Nat → Nat} {ln rc : Nat → Int} {U : Int} {src : Nat → Bool} {hi : Int} {d : Nat → Int} {p : Nat → Option Nat}
    (hG : ns_G V H fr tt ln) (hB : ns_B V H fr tt ln rc U src hi d p) {v : Nat} (hv : v < V) (hd : d v ≠ U) :
    ∃ es r, ns_path fr p r v es ∧ es.length < V ∧ r < V ∧ src r = true := by
  obtain ⟨ρ, hρ⟩ := hB.2.2.2.2
  obtain ⟨es, r, h1, h2, h3⟩ := ns_path_ex hG hB hρ (ρ v) v (List.range V) (Nat.le_refl _) hv hd (fun u hu _ => List.mem_range.mpr hu)
  rw [List.length_range] at h2
  exact ⟨es, r, h1, h2, h3⟩
/-- what holds of each edge of the path -/
theorem ns_path_e {V H : Nat} {fr tt : Nat → Nat} {ln rc : Nat → Int} {U : Int} {src : Nat → Bool} {hi : Int} {d : Nat → Int} {p : Nat → Option Nat} {r : Nat}
    (hG : ns_G V H fr tt ln) (hB : ns_B V H fr tt ln rc U src hi d p) (hC : ns_C H fr tt ln rc U (2 * H) d) :
    ∀ (es : List Nat) (v : Nat), v < V → ns_path fr p r v es → ∀ e, e ∈ es → e < 2 * H ∧ 0 < rc e ∧ d (tt e) = d (fr e) + ln e ∧ d (fr e) ≠ U ∧ d (tt e) ≠ U := by
  intro es
  induction es with
  | nil => intro v _ _ e he; simp at he
  | cons f es ih =>
    intro v hv hp e he
    obtain ⟨a1, a2, a3, a4, a5, a6⟩ := hB.2.1 v hv f hp.1
    rcases List.mem_cons.mp he with k | k
    · rw [k]
      have c := hC f a1 a1 a2
      rw [a3] at c ⊢
      refine ⟨a1, a2, ?_, a4, a6⟩
      rcases c with c | c
      · exact absurd c a4
      · omega
    · exact ih (fr f) (hG f a1).1 hp.2 e k
theorem ns_path_tt {V H : Nat} {fr tt : Nat → Nat} {ln rc : Nat → Int} {U : Int} {src : Nat → Bool} {hi : Int} {d : Nat → Int} {p : Nat → Option Nat} {r : Nat} {ρ : Nat → Nat}
    (hG : ns_G V H fr tt ln) (hB : ns_B V H fr tt ln rc U src hi d p) (hρ : ∀ v, v < V → ∀ e, p v = some e → ρ (fr e) < ρ v) :
    ∀ (es : List Nat) (v : Nat), v < V → ns_path fr p r v es → (∀ e, e ∈ es → ρ (tt e) ≤ ρ v) ∧ ρ r ≤ ρ v ∧ (es ≠ [] → ρ r < ρ v) := by
  intro es
  induction es with
  | nil =>
    intro v _ hp
    refine ⟨fun e he => by simp at he, ?_, fun k => absurd rfl k⟩
    rw [hp.1]; exact Nat.le_refl _
  | cons f es ih =>
    intro v hv hp
    obtain ⟨a1, a2, a3, a4, a5, a6⟩ := hB.2.1 v hv f hp.1
    have h1 := hρ v hv f hp.1
    obtain ⟨b1, b2, b3⟩ := ih (fr f) (hG f a1).1 hp.2
    refine ⟨fun e he => ?_, by omega, fun _ => by omega⟩
    rcases List.mem_cons.mp he with k | k
    · rw [k, a3]; exact Nat.le_refl _
    · have := b1 e k
      omega
def ns_ls (w : Nat → Int) : List Nat → Int
  | [] => 0
  | e :: es => w e + ns_ls w es
theorem ns_tel {V H : Nat} {fr tt : Nat → Nat} {ln rc : Nat → Int} {U : Int} {src : Nat → Bool} {hi : Int} {d : Nat → Int} {p : Nat → Option Nat} {r : Nat}
    (hG : ns_G V H fr tt ln) (hB : ns_B V H fr tt ln rc U src hi d p) (ψ w : Nat → Int) :
    ∀ (es : List Nat) (v : Nat), v < V → ns_path fr p r v es → (∀ e, e ∈ es → w e = ψ (tt e) - ψ (fr e)) → ns_ls w es = ψ v - ψ r := by
  intro es
  induction es with
  | nil =>
    intro v _ hp _
    rw [hp.1]
    show (0 : Int) = _
    omega
  | cons f es ih =>
    intro v hv hp hw
    obtain ⟨a1, a2, a3, a4, a5, a6⟩ := hB.2.1 v hv f hp.1
    have h1 := ih (fr f) (hG f a1).1 hp.2 (fun e he => hw e (List.mem_cons_of_mem _ he))
    have h2 := hw f (by simp)
    rw [a3] at h2
    show w f + ns_ls w es = _
    omega
/-- one edge's push, and the push along a path -/
def ns_p1 (a : Int) (e : Nat) (rc : Nat → Int) : Nat → Int := ns_up (ns_up rc e (rc e - a)) (ns_fl e) (rc (ns_fl e) + a)
def ns_pu (a : Int) : List Nat → (Nat → Int) → (Nat → Int)
  | [], rc => rc
  | e :: es, rc => ns_pu a es (ns_p1 a e rc)
theorem ns_p1_e (a : Int) (e : Nat) (rc : Nat → Int) : ns_p1 a e rc e = rc e - a := by
  unfold ns_p1
  rw [ns_un (fun k => ns_fl_ne e k.symm), ns_us]
theorem ns_p1_f (a : Int) (e : Nat) (rc : Nat → Int) : ns_p1 a e rc (ns_fl e) = rc (ns_fl e) + a := by
  unfold ns_p1
  rw [ns_us]
theorem ns_p1_n (a : Int) {e f : Nat} (rc : Nat → Int) (h1 : f ≠ e) (h2 : f ≠ ns_fl e) : ns_p1 a e rc f = rc f := by
  unfold ns_p1
  rw [ns_un h2, ns_un h1]
theorem ns_p1_s (a : Int) (e : Nat) (rc : Nat → Int) (j : Nat) : ns_p1 a e rc (2 * j) + ns_p1 a e rc (2 * j + 1) = rc (2 * j) + rc (2 * j + 1) := by
  by_cases h0 : e = 2 * j
  · have hf : ns_fl e = 2 * j + 1 := by unfold ns_fl; rw [if_pos (by omega)]; omega
    rw [← hf, ns_p1_f, ← h0, ns_p1_e]; omega
  · by_cases h1 : e = 2 * j + 1
    · have hf : ns_fl e = 2 * j := by unfold ns_fl; rw [if_neg (by omega)]; omega
      rw [← hf, ns_p1_f, hf, ← h1, ns_p1_e]; omega
    · have hf : ns_fl e ≠ 2 * j ∧ ns_fl e ≠ 2 * j + 1 := by unfold ns_fl; split <;> omega
      rw [ns_p1_n a rc (fun k => h0 k.symm) (fun k => hf.1 k.symm), ns_p1_n a rc (fun k => h1 k.symm) (fun k => hf.2 k.symm)]
theorem ns_pu_s (a : Int) (j : Nat) : ∀ (es : List Nat) (rc : Nat → Int), ns_pu a es rc (2 * j) + ns_pu a es rc (2 * j + 1) = rc (2 * j) + rc (2 * j + 1) := by
  intro es
  induction es with
  | nil => intro rc; rfl
  | cons e es ih =>
    intro rc
    show ns_pu a es (ns_p1 a e rc) (2 * j) + ns_pu a es (ns_p1 a e rc) (2 * j + 1) = _
    rw [ih, ns_p1_s]
/-- a linear count over the pairs -/
def ns_li (w rc : Nat → Int) (H : Nat) : Int := ns_sm (fun j => w (2 * j) * rc (2 * j + 1)) H
theorem ns_p1_li {H : Nat} (a : Int) {e : Nat} (w rc : Nat → Int) (he : e < 2 * H) (hw : w (ns_fl e) = - w e) : ns_li w (ns_p1 a e rc) H = ns_li w rc H + a * w e := by
  unfold ns_li
  have hj : e / 2 < H := by omega
  rw [ns_sm_u (f := fun j => w (2 * j) * rc (2 * j + 1)) (g := fun j => w (2 * j) * ns_p1 a e rc (2 * j + 1)) (e / 2) H hj (fun i _ hn => by
    show w (2 * i) * ns_p1 a e rc (2 * i + 1) = w (2 * i) * rc (2 * i + 1)
    rw [ns_p1_n a rc (by omega) (by unfold ns_fl; split <;> omega)])]
  by_cases h0 : e % 2 = 0
  · have hf : ns_fl e = e + 1 := by unfold ns_fl; rw [if_pos h0]
    have h2 : 2 * (e / 2) = e := by omega
    rw [h2, ← hf, ns_p1_f, Int.mul_add, Int.mul_comm (w e) a]; omega
  · have hf : ns_fl e = e - 1 := by unfold ns_fl; rw [if_neg h0]
    have h2 : 2 * (e / 2) = ns_fl e := by omega
    have h3 : ns_fl e + 1 = e := by omega
    rw [h2, h3, ns_p1_e, hw, Int.mul_sub, Int.neg_mul, Int.neg_mul, Int.mul_comm (w e) a]; omega
theorem ns_pu_li {H : Nat} (a : Int) (w : Nat → Int) : ∀ (es : List Nat) (rc : Nat → Int), (∀ e, e ∈ es → e < 2 * H ∧ w (ns_fl e) = - w e) → ns_li w (ns_pu a es rc) H = ns_li w rc H + a * ns_ls w es := by
  intro es
  induction es with
  | nil =>
    intro rc _
    show ns_li w rc H = ns_li w rc H + a * 0
    omega
  | cons e es ih =>
    intro rc h
    show ns_li w (ns_pu a es (ns_p1 a e rc)) H = ns_li w rc H + a * (w e + ns_ls w es)
    rw [ih _ (fun f hf => h f (List.mem_cons_of_mem _ hf)), ns_p1_li a w rc (h e (by simp)).1 (h e (by simp)).2, Int.mul_add]
    omega
theorem ns_p1_pos {a : Int} (ha : 0 ≤ a) {e f : Nat} {rc : Nat → Int} (h : 0 < ns_p1 a e rc f) : 0 < rc f ∨ f = ns_fl e := by
  by_cases h2 : f = ns_fl e
  · exact Or.inr h2
  · left
    by_cases h1 : f = e
    · rw [h1, ns_p1_e] at h
      rw [h1]; omega
    · rw [ns_p1_n a rc h1 h2] at h
      exact h
theorem ns_pu_pos {a : Int} (ha : 0 ≤ a) {f : Nat} : ∀ (es : List Nat) (rc : Nat → Int), 0 < ns_pu a es rc f → 0 < rc f ∨ ∃ e, e ∈ es ∧ f = ns_fl e := by
  intro es
  induction es with
  | nil => intro rc h; exact Or.inl h
  | cons e es ih =>
    intro rc h
    rcases ih (ns_p1 a e rc) h with k | ⟨g, hg, k⟩
    · rcases ns_p1_pos ha k with k | k
      · exact Or.inl k
      · exact Or.inr ⟨e, by simp, k⟩
    · exact Or.inr ⟨g, List.mem_cons_of_mem _ hg, k⟩
theorem ns_pu_nn {V H : Nat} {fr tt : Nat → Nat} {ln rc0 : Nat → Int} {U : Int} {src : Nat → Bool} {hi : Int} {d : Nat → Int} {p : Nat → Option Nat} {r : Nat} {ρ : Nat → Nat} {a : Int} (ha : 0 ≤ a)
    (hG : ns_G V H fr tt ln) (hB : ns_B V H fr tt ln rc0 U src hi d p) (hρ : ∀ v, v < V → ∀ e, p v = some e → ρ (fr e) < ρ v) :
    ∀ (es : List Nat) (v : Nat) (rc : Nat → Int), v < V → ns_path fr p r v es → (∀ e, e ∈ es → a ≤ rc e) → (∀ e, e < 2 * H → 0 ≤ rc e) → ∀ e, e < 2 * H → 0 ≤ ns_pu a es rc e := by
  intro es
  induction es with
  | nil => intro v rc _ _ _ h; exact h
  | cons f es ih =>
    intro v rc hv hp hle h
    obtain ⟨a1, a2, a3, a4, a5, a6⟩ := hB.2.1 v hv f hp.1
    have h1 := hρ v hv f hp.1
    have h2 := (ns_path_tt hG hB hρ es (fr f) (hG f a1).1 hp.2).1
    refine ih (fr f) (ns_p1 a f rc) (hG f a1).1 hp.2 (fun e he => ?_) (fun e he => ?_)
    · have hne : e ≠ f := by
        intro k
        have := h2 e he
        rw [k, a3] at this
        omega
      have := hle e (List.mem_cons_of_mem _ he)
      by_cases k : e = ns_fl f
      · rw [k] at this
        rw [k, ns_p1_f]
        have := h (ns_fl f) (ns_fl_lt a1)
        omega
      · rw [ns_p1_n a rc hne k]; exact this
    · by_cases k : e = f
      · rw [k, ns_p1_e]
        have := hle f (by simp)
        omega
      · by_cases k' : e = ns_fl f
        · rw [k', ns_p1_f]
          have := h (ns_fl f) (ns_fl_lt a1)
          omega
        · rw [ns_p1_n a rc k k']; exact h e he
theorem ns_sup (f : Nat → Int) : ∀ n : Nat, ∃ K : Int, ∀ i, i < n → f i ≤ K := by
  intro n
  induction n with
  | zero => exact ⟨0, fun i hi => by omega⟩
  | succ n ih =>
    obtain ⟨K, hK⟩ := ih
    by_cases h : f n ≤ K
    · refine ⟨K, fun i hi => ?_⟩
      by_cases k : i = n
      · rw [k]; exact h
      · exact hK i (by omega)
    · refine ⟨f n, fun i hi => ?_⟩
      by_cases k : i = n
      · rw [k]; exact Int.le_refl _
      · have := hK i (by omega); omega
/-- potentials after a push -/
theorem ns_Pot_new {V H : Nat} {fr tt : Nat → Nat} {ln rc rc' π : Nat → Int} {U : Int} {src : Nat → Bool} {hi : Int} {d : Nat → Int} {p : Nat → Option Nat} {es : List Nat}
    (hG : ns_G V H fr tt ln) (hB : ns_B V H fr tt ln rc U src hi d p) (hU : hi + 50 < U) (hC : ns_C H fr tt ln rc U (2 * H) d) (hP : ns_Pot H fr tt ln rc π)
    (he : ∀ e, e ∈ es → e < 2 * H ∧ 0 < rc e ∧ d (tt e) = d (fr e) + ln e ∧ d (fr e) ≠ U ∧ d (tt e) ≠ U)
    (hn : ∀ f, f < 2 * H → 0 < rc' f → 0 < rc f ∨ ∃ e, e ∈ es ∧ f = ns_fl e) : ∃ π', ns_Pot H fr tt ln rc' π' := by
  obtain ⟨K, hK⟩ := ns_sup (fun e => d (tt e) - ln e - π (fr e)) (2 * H)
  refine ⟨fun v => if d v = U then π v + K else d v, fun f hf hr => ?_⟩
  dsimp only
  obtain ⟨g1, g2, g3, g4, g5, g6, g7, g8⟩ := hG f hf
  rcases hn f hf hr with k | ⟨e, hes, k⟩
  · have hk : d (tt f) - ln f - π (fr f) ≤ K := hK f hf
    by_cases hu : d (fr f) = U
    · rw [if_pos hu]
      by_cases hv : d (tt f) = U
      · rw [if_pos hv]
        have := hP f hf k
        omega
      · rw [if_neg hv]
        omega
    · rw [if_neg hu]
      have c := hC f hf hf k
      have b := hB.1 (fr f) g1
      have hv : d (tt f) ≠ U := by omega
      rw [if_neg hv]
      omega
  · obtain ⟨b1, b2, b3, b4, b5⟩ := he e hes
    obtain ⟨q1, q2, q3, q4, q5, q6, q7, q8⟩ := hG e b1
    rw [k, q4, q5, q6, if_neg b4, if_neg b5]
    omega
/-- the push along a path, all in one -/
theorem ns_aug {V H : Nat} {fr tt : Nat → Nat} {ln rc π : Nat → Int} {U : Int} {src : Nat → Bool} {hi : Int} {d : Nat → Int} {p : Nat → Option Nat} {es : List Nat} {v r : Nat} {a : Int}
    (hG : ns_G V H fr tt ln) (hB : ns_B V H fr tt ln rc U src hi d p) (hU : hi + 50 < U) (hC : ns_C H fr tt ln rc U (2 * H) d) (hP : ns_Pot H fr tt ln rc π)
    (hv : v < V) (hp : ns_path fr p r v es) (ha : 0 ≤ a) (hle : ∀ e, e ∈ es → a ≤ rc e) (hnn : ∀ e, e < 2 * H → 0 ≤ rc e) :
    (∀ e, e < 2 * H → 0 ≤ ns_pu a es rc e) ∧ (∃ π', ns_Pot H fr tt ln (ns_pu a es rc) π') ∧
    (∀ w ψ : Nat → Int, (∀ e, e < 2 * H → w (ns_fl e) = - w e) → (∀ e, e ∈ es → w e = ψ (tt e) - ψ (fr e)) → ns_li w (ns_pu a es rc) H = ns_li w rc H + a * (ψ v - ψ r)) := by
  have he := ns_path_e hG hB hC es v hv hp
  obtain ⟨ρ, hρ⟩ := hB.2.2.2.2
  refine ⟨ns_pu_nn ha hG hB hρ es v rc hv hp hle hnn, ns_Pot_new hG hB hU hC hP he (fun f _ hf => ns_pu_pos ha es rc hf), fun w ψ hw hψ => ?_⟩
  rw [ns_pu_li a w es rc (fun e hes => ⟨(he e hes).1, hw e (he e hes).1⟩), ns_tel hG hB ψ w es v hv hp hψ]
end
section
/-! 04: marking what reaches a set; the class's graph and the reference's graph -/
def ns_cA (H : Nat) (fr tt : Nat → Nat) (rc : Nat → Int) (i : Nat) (mk : Nat → Bool) : Prop := ∀ e, e < 2 * H → e < i → 0 < rc e → mk (tt e) = true → mk (fr e) = true
def ns_mk (V H : Nat) (fr tt : Nat → Nat) (rc : Nat → Int) (ini : Nat → Bool) (r i : Nat) (g : Bool) (mk : Nat → Bool) : Prop :=
  (∀ v, v < V → ini v = true → mk v = true) ∧
  (∀ Z : Nat → Bool, (∀ v, v < V → ini v = true → Z v = true) → ns_cA H fr tt rc (2 * H) Z → ∀ v, v < V → mk v = true → Z v = true) ∧
  (ns_cA H fr tt rc (2 * H) mk ∨ ((∃ l : List Nat, (∀ v, v < V → ¬ mk v = true → v ∈ l) ∧ l.length + r + 1 + (if g = true then 1 else 0) ≤ V) ∧ (g = false → ns_cA H fr tt rc i mk)))
theorem ns_mk_0 {V H : Nat} {fr tt : Nat → Nat} {rc : Nat → Int} {ini mk : Nat → Bool} (hG : ∀ e, e < 2 * H → tt e < V) (h : ∀ v, v < V → mk v = ini v) : ns_mk V H fr tt rc ini 0 0 false mk := by
  refine ⟨fun v hv k => by rw [h v hv]; exact k, fun Z hZ _ v hv k => hZ v hv (by rw [← h v hv]; exact k), ?_⟩
  by_cases ex : ∃ v, v < V ∧ mk v = true
  · obtain ⟨v, hv, hm⟩ := ex
    right
    refine ⟨⟨(List.range V).erase v, fun u hu hn => ?_, ?_⟩, fun _ e _ h0 => absurd h0 (Nat.not_lt_zero _)⟩
    · have hne : u ≠ v := by intro k; rw [k] at hn; exact hn hm
      exact (List.mem_erase_of_ne hne).mpr (List.mem_range.mpr hu)
    · rw [List.length_erase_of_mem (List.mem_range.mpr hv), List.length_range, if_neg (by decide)]
      omega
  · left
    intro e he _ _ k
    exact absurd ⟨tt e, hG e he, k⟩ ex
theorem ns_mk_upd {V H : Nat} {fr tt : Nat → Nat} {rc : Nat → Int} {ini mk : Nat → Bool} {r e : Nat} {g : Bool} (hf : fr e < V) (ht : tt e < V) (h : ns_mk V H fr tt rc ini r e g mk) (he : e < 2 * H)
    (hr : 0 < rc e) (h1 : mk (tt e) = true) (h2 : ¬ mk (fr e) = true) : ns_mk V H fr tt rc ini r (e + 1) true (ns_up mk (fr e) true) := by
  obtain ⟨a, b, c⟩ := h
  have mono : ∀ v, mk v = true → ns_up mk (fr e) true v = true := by
    intro v hv
    by_cases k : v = fr e
    · rw [k, ns_us]
    · rw [ns_un k]; exact hv
  refine ⟨fun v hv k => mono v (a v hv k), fun Z hZ hc v hv k => ?_, ?_⟩
  · by_cases k' : v = fr e
    · rw [k']
      exact hc e he he hr (b Z hZ hc (tt e) ht h1)
    · rw [ns_un k'] at k
      exact b Z hZ hc v hv k
  · rcases c with c | ⟨⟨l, l1, l2⟩, c⟩
    · exact absurd (c e he he hr h1) h2
    · right
      refine ⟨⟨l.erase (fr e), fun v hv hn => ?_, ?_⟩, fun k => by cases k⟩
      · have hne : v ≠ fr e := by intro k; rw [k, ns_us] at hn; exact hn rfl
        rw [ns_un hne] at hn
        exact (List.mem_erase_of_ne hne).mpr (l1 v hv hn)
      · have hm := l1 (fr e) hf h2
        have : 0 < l.length := List.length_pos_of_mem hm
        rw [List.length_erase_of_mem hm, if_pos rfl]
        split at l2 <;> omega
theorem ns_mk_no {V H : Nat} {fr tt : Nat → Nat} {rc : Nat → Int} {ini mk : Nat → Bool} {r e : Nat} {g : Bool} (h : ns_mk V H fr tt rc ini r e g mk)
    (hn : 0 < rc e → mk (tt e) = true → mk (fr e) = true) : ns_mk V H fr tt rc ini r (e + 1) g mk := by
  obtain ⟨a, b, c⟩ := h
  refine ⟨a, b, ?_⟩
  rcases c with c | ⟨c1, c⟩
  · exact Or.inl c
  · refine Or.inr ⟨c1, fun k e' he' hi hr hm => ?_⟩
    by_cases k' : e' = e
    · rw [k'] at hr hm ⊢; exact hn hr hm
    · exact c k e' he' (by omega) hr hm
theorem ns_mk_end {V H : Nat} {fr tt : Nat → Nat} {rc : Nat → Int} {ini mk : Nat → Bool} {r : Nat} {g : Bool} (h : ns_mk V H fr tt rc ini r (2 * H) g mk) :
    ns_mk V H fr tt rc ini (r + 1) 0 false mk ∧ (g = false → ns_cA H fr tt rc (2 * H) mk) := by
  obtain ⟨a, b, c⟩ := h
  refine ⟨⟨a, b, ?_⟩, fun k => ?_⟩
  · rcases c with c | ⟨⟨l, l1, l2⟩, c⟩
    · exact Or.inl c
    · cases g with
      | false => exact Or.inl (c rfl)
      | true =>
        rw [if_pos rfl] at l2
        refine Or.inr ⟨⟨l, l1, ?_⟩, fun _ e _ h0 => absurd h0 (Nat.not_lt_zero _)⟩
        rw [if_neg (by decide)]
        omega
  · rcases c with c | ⟨_, c⟩
    · exact c
    · exact c k
theorem ns_mk_all {V H : Nat} {fr tt : Nat → Nat} {rc : Nat → Int} {ini mk : Nat → Bool} {r i : Nat} {g : Bool} (h : ns_mk V H fr tt rc ini r i g mk) (hr : V ≤ r) : ns_cA H fr tt rc (2 * H) mk := by
  rcases h.2.2 with c | ⟨⟨l, _, l2⟩, _⟩
  · exact c
  · split at l2 <;> omega
theorem ns_mk_w {V H : Nat} {fr tt : Nat → Nat} {rc : Nat → Int} {ini mk : Nat → Bool} {r i : Nat} {g : Bool} (h : ns_mk V H fr tt rc ini r i g mk) (hc : ns_cA H fr tt rc (2 * H) mk) (r' i' : Nat) (g' : Bool) : ns_mk V H fr tt rc ini r' i' g' mk :=
  ⟨h.1, h.2.1, Or.inl hc⟩
/-- unreached by an edge with room: unreached -/
theorem ns_CU {V H : Nat} {fr tt : Nat → Nat} {ln rc : Nat → Int} {U : Int} {src : Nat → Bool} {hi : Int} {d : Nat → Int} {p : Nat → Option Nat} {e : Nat}
    (hG : ns_G V H fr tt ln) (hB : ns_B V H fr tt ln rc U src hi d p) (hU : hi + 50 < U) (hC : ns_C H fr tt ln rc U (2 * H) d) (he : e < 2 * H) (hr : 0 < rc e) (ht : d (tt e) = U) : d (fr e) = U := by
  rcases hC e he he hr with k | k
  · exact k
  · obtain ⟨g1, g2, g3, g4, g5, g6, g7, g8⟩ := hG e he
    have := hB.1 (fr e) g1
    omega
/-! the class's graph -/
def ns_xf (tl hd : Nat → Nat) (e : Nat) : Nat := if e % 2 = 0 then tl (e / 2) else hd (e / 2)
def ns_xl (c : Nat → Int) (e : Nat) : Int := if e % 2 = 0 then c (e / 2) else - c (e / 2)
def ns_xr (cap x : Nat → Int) (e : Nat) : Int := if e % 2 = 0 then cap (e / 2) - x (e / 2) else x (e / 2)
theorem ns_xf_0 (tl hd : Nat → Nat) (k : Nat) : ns_xf tl hd (2 * k) = tl k := by
  unfold ns_xf; rw [if_pos (by omega), show 2 * k / 2 = k by omega]
theorem ns_xf_1 (tl hd : Nat → Nat) (k : Nat) : ns_xf tl hd (2 * k + 1) = hd k := by
  unfold ns_xf; rw [if_neg (by omega), show (2 * k + 1) / 2 = k by omega]
theorem ns_xl_0 (c : Nat → Int) (k : Nat) : ns_xl c (2 * k) = c k := by
  unfold ns_xl; rw [if_pos (by omega), show 2 * k / 2 = k by omega]
theorem ns_xl_1 (c : Nat → Int) (k : Nat) : ns_xl c (2 * k + 1) = - c k := by
  unfold ns_xl; rw [if_neg (by omega), show (2 * k + 1) / 2 = k by omega]
theorem ns_xr_0 (cap x : Nat → Int) (k : Nat) : ns_xr cap x (2 * k) = cap k - x k := by
  unfold ns_xr; rw [if_pos (by omega), show 2 * k / 2 = k by omega]
theorem ns_xr_1 (cap x : Nat → Int) (k : Nat) : ns_xr cap x (2 * k + 1) = x k := by
  unfold ns_xr; rw [if_neg (by omega), show (2 * k + 1) / 2 = k by omega]
theorem ns_ev (e : Nat) : (∃ k, e = 2 * k ∧ ns_fl e = 2 * k + 1) ∨ (∃ k, e = 2 * k + 1 ∧ ns_fl e = 2 * k) := by
  by_cases h : e % 2 = 0
  · left; refine ⟨e / 2, by omega, ?_⟩; unfold ns_fl; rw [if_pos h]; omega
  · right; refine ⟨e / 2, by omega, ?_⟩; unfold ns_fl; rw [if_neg h]; omega
theorem ns_fl_0 (k : Nat) : ns_fl (2 * k) = 2 * k + 1 := by unfold ns_fl; rw [if_pos (by omega)]
theorem ns_fl_1 (k : Nat) : ns_fl (2 * k + 1) = 2 * k := by unfold ns_fl; rw [if_neg (by omega)]; omega
theorem ns_x_G {n m : Nat} {tl hd : Nat → Nat} {c : Nat → Int} (h : ∀ a, a < m → hd a < n ∧ tl a < n) (hne : ∀ a, a < m → tl a ≠ hd a) (hc : ∀ a, a < m → -50 ≤ c a ∧ c a ≤ 50) :
    ns_G n m (ns_xf tl hd) (ns_xf hd tl) (ns_xl c) := by
  intro e he
  rcases ns_ev e with ⟨k, e1, e2⟩ | ⟨k, e1, e2⟩
  · have a1 := h k (by omega)
    have a2 := hne k (by omega)
    have a3 := hc k (by omega)
    rw [e2, e1]
    simp only [ns_xf_0, ns_xf_1, ns_xl_0, ns_xl_1]
    exact ⟨a1.2, a1.1, a2, trivial, trivial, trivial, a3.1, a3.2⟩
  · have a1 := h k (by omega)
    have a2 := hne k (by omega)
    have a3 := hc k (by omega)
    rw [e2, e1]
    simp only [ns_xf_0, ns_xf_1, ns_xl_0, ns_xl_1]
    exact ⟨a1.1, a1.2, fun k => a2 k.symm, trivial, trivial, by omega, by omega, by omega⟩
/-- a push of one edge is a change of the arc's flow -/
theorem ns_xr_p0 (cap x : Nat → Int) (a : Int) (k : Nat) : ns_p1 a (2 * k) (ns_xr cap x) = ns_xr cap (ns_up x k (x k + a)) := by
  funext f
  by_cases h1 : f = 2 * k
  · rw [h1, ns_p1_e, ns_xr_0, ns_xr_0, ns_us]; omega
  · by_cases h2 : f = 2 * k + 1
    · rw [h2, ← ns_fl_0, ns_p1_f, ns_fl_0, ns_xr_1, ns_xr_1, ns_us]
    · rw [ns_p1_n a _ h1 (by rw [ns_fl_0]; exact h2)]
      rcases ns_ev f with ⟨j, e1, _⟩ | ⟨j, e1, _⟩
      · rw [e1, ns_xr_0, ns_xr_0, ns_un (by omega)]
      · rw [e1, ns_xr_1, ns_xr_1, ns_un (by omega)]
theorem ns_xr_p1 (cap x : Nat → Int) (a : Int) (k : Nat) : ns_p1 a (2 * k + 1) (ns_xr cap x) = ns_xr cap (ns_up x k (x k - a)) := by
  funext f
  by_cases h1 : f = 2 * k + 1
  · rw [h1, ns_p1_e, ns_xr_1, ns_xr_1, ns_us]
  · by_cases h2 : f = 2 * k
    · have q := ns_p1_f a (2 * k + 1) (ns_xr cap x)
      rw [ns_fl_1, ns_xr_0] at q
      rw [h2, q, ns_xr_0, ns_us]; omega
    · rw [ns_p1_n a _ h1 (by rw [ns_fl_1]; exact h2)]
      rcases ns_ev f with ⟨j, e1, _⟩ | ⟨j, e1, _⟩
      · rw [e1, ns_xr_0, ns_xr_0, ns_un (by omega)]
      · rw [e1, ns_xr_1, ns_xr_1, ns_un (by omega)]
/-- the excess as a linear count -/
def ns_wv (fr tt : Nat → Nat) (v e : Nat) : Int := ns_ind (tt e) v - ns_ind (fr e) v
theorem ns_wv_fl {V H : Nat} {fr tt : Nat → Nat} {ln : Nat → Int} (hG : ns_G V H fr tt ln) (v : Nat) : ∀ e, e < 2 * H → ns_wv fr tt v (ns_fl e) = - ns_wv fr tt v e := by
  intro e he
  obtain ⟨g1, g2, g3, g4, g5, g6, g7, g8⟩ := hG e he
  unfold ns_wv
  rw [g4, g5]; omega
theorem ns_x_exc (b : Nat → Int) (tl hd : Nat → Nat) (cap x : Nat → Int) (m v : Nat) : ns_exc b tl hd x m v = b v + ns_li (ns_wv (ns_xf tl hd) (ns_xf hd tl) v) (ns_xr cap x) m := by
  unfold ns_exc ns_li
  rw [ns_sm_c (f := fun a => x a * (ns_ind (hd a) v - ns_ind (tl a) v)) (g := fun j => ns_wv (ns_xf tl hd) (ns_xf hd tl) v (2 * j) * ns_xr cap x (2 * j + 1)) m (fun a _ => by
    show _ = _
    unfold ns_wv
    rw [ns_xf_0, ns_xf_0, ns_xr_1, Int.mul_comm])]
/-! the reference's graph -/
def ns_cnt (adj : Nat → Int) : Nat → Nat
  | 0 => 0
  | v + 1 => ns_cnt adj v + (if adj v = 0 then 0 else 1)
theorem ns_cnt_s (adj : Nat → Int) (v : Nat) : ns_cnt adj (v + 1) = ns_cnt adj v + (if adj v = 0 then 0 else 1) := rfl
theorem ns_cnt_le (adj : Nat → Int) : ∀ v : Nat, ns_cnt adj v ≤ v := by
  intro v
  induction v with
  | zero => exact Nat.le_refl _
  | succ v ih => rw [ns_cnt_s]; split <;> omega
theorem ns_cnt_mono (adj : Nat → Int) (u : Nat) : ∀ v : Nat, u ≤ v → ns_cnt adj u ≤ ns_cnt adj v := by
  intro v
  induction v with
  | zero => intro h; rw [show u = 0 by omega]; exact Nat.le_refl _
  | succ v ih =>
    intro h
    by_cases k : u = v + 1
    · rw [k]; exact Nat.le_refl _
    · have := ih (by omega)
      rw [ns_cnt_s]; omega
theorem ns_cnt_lt {adj : Nat → Int} {u v : Nat} (h : u < v) (hu : adj u ≠ 0) : ns_cnt adj u < ns_cnt adj v := by
  have := ns_cnt_mono adj (u + 1) v h
  rw [ns_cnt_s, if_neg hu] at this
  omega
theorem ns_cnt_in {adj : Nat → Int} {m : Nat} : ∀ (v j : Nat), j < m + ns_cnt adj v → j < m ∨ ∃ u, u < v ∧ adj u ≠ 0 ∧ j = m + ns_cnt adj u := by
  intro v
  induction v with
  | zero => intro j h; left; exact h
  | succ v ih =>
    intro j h
    rw [ns_cnt_s] at h
    by_cases k : j < m + ns_cnt adj v
    · rcases ih j k with a | ⟨u, a, b, c⟩
      · exact Or.inl a
      · exact Or.inr ⟨u, by omega, b, c⟩
    · right
      split at h
      · omega
      · refine ⟨v, by omega, by assumption, by omega⟩
theorem ns_cnt_sum (adj g : Nat → Int) (m : Nat) : ∀ v : Nat, ns_sm g (m + ns_cnt adj v) = ns_sm g m + ns_sm (fun u => if adj u = 0 then 0 else g (m + ns_cnt adj u)) v := by
  intro v
  induction v with
  | zero => show ns_sm g m = ns_sm g m + 0; omega
  | succ v ih =>
    rw [ns_cnt_s, ns_sm_s]
    by_cases h : adj v = 0
    · rw [if_pos h, if_pos h, Nat.add_zero, ih]; omega
    · rw [if_neg h, if_neg h, ← Nat.add_assoc, ns_sm_s, ih]; omega
theorem ns_ind_c (a b : Nat) : ns_ind a b = ns_ind b a := by
  unfold ns_ind
  by_cases h : a = b
  · rw [if_pos h, if_pos h.symm]
  · rw [if_neg h, if_neg (fun k => h k.symm)]
/-- the reference's edges as they are laid -/
def ns_YE (n m : Nat) (tl hd : Nat → Nat) (c adj : Nat → Int) (fr tt : Nat → Nat) (ln : Nat → Int) : Prop :=
  (∀ a, a < m → (c a < 0 → fr (2 * a) = hd a ∧ tt (2 * a) = tl a ∧ ln (2 * a) = - c a) ∧ (¬ c a < 0 → fr (2 * a) = tl a ∧ tt (2 * a) = hd a ∧ ln (2 * a) = c a)) ∧
  (∀ v, v < n → (0 < adj v → fr (2 * (m + ns_cnt adj v)) = n ∧ tt (2 * (m + ns_cnt adj v)) = v ∧ ln (2 * (m + ns_cnt adj v)) = 0) ∧
    (adj v < 0 → fr (2 * (m + ns_cnt adj v)) = v ∧ tt (2 * (m + ns_cnt adj v)) = n + 1 ∧ ln (2 * (m + ns_cnt adj v)) = 0)) ∧
  (∀ j, j < m + ns_cnt adj n → fr (2 * j + 1) = tt (2 * j) ∧ tt (2 * j + 1) = fr (2 * j) ∧ ln (2 * j + 1) = - ln (2 * j))
theorem ns_y_G {n m : Nat} {tl hd : Nat → Nat} {c adj : Nat → Int} {fr tt : Nat → Nat} {ln : Nat → Int} (h : ∀ a, a < m → hd a < n ∧ tl a < n) (hne : ∀ a, a < m → tl a ≠ hd a) (hc : ∀ a, a < m → -50 ≤ c a ∧ c a ≤ 50)
    (hY : ns_YE n m tl hd c adj fr tt ln) : ns_G (n + 2) (m + ns_cnt adj n) fr tt ln := by
  obtain ⟨y1, y2, y3⟩ := hY
  have ev : ∀ j, j < m + ns_cnt adj n → fr (2 * j) < n + 2 ∧ tt (2 * j) < n + 2 ∧ fr (2 * j) ≠ tt (2 * j) ∧ -50 ≤ ln (2 * j) ∧ ln (2 * j) ≤ 50 := by
    intro j hj
    rcases ns_cnt_in n j hj with k | ⟨u, hu, hz, k⟩
    · have a1 := h j k
      have a2 := hne j k
      have a3 := hc j k
      by_cases hk : c j < 0
      · obtain ⟨b1, b2, b3⟩ := (y1 j k).1 hk
        rw [b1, b2, b3]
        omega
      · obtain ⟨b1, b2, b3⟩ := (y1 j k).2 hk
        rw [b1, b2, b3]
        omega
    · rw [k]
      by_cases hk : 0 < adj u
      · obtain ⟨b1, b2, b3⟩ := (y2 u hu).1 hk
        rw [b1, b2, b3]
        omega
      · obtain ⟨b1, b2, b3⟩ := (y2 u hu).2 (by omega)
        rw [b1, b2, b3]
        omega
  intro e he
  rcases ns_ev e with ⟨k, e1, e2⟩ | ⟨k, e1, e2⟩
  · obtain ⟨a1, a2, a3, a4, a5⟩ := ev k (by omega)
    obtain ⟨b1, b2, b3⟩ := y3 k (by omega)
    rw [e2, e1]
    exact ⟨a1, a2, a3, b1, b2, b3, a4, a5⟩
  · obtain ⟨a1, a2, a3, a4, a5⟩ := ev k (by omega)
    obtain ⟨b1, b2, b3⟩ := y3 k (by omega)
    rw [e2, e1, b1, b2, b3]
    exact ⟨a2, a1, fun q => a3 q.symm, rfl, rfl, by omega, by omega, by omega⟩
end
section
/-! 05: what the reference's residual network says of a flow on the arcs -/
def ns_y0 (c cap : Nat → Int) (a : Nat) : Int := if c a < 0 then cap a else 0
def ns_yy (c cap rc : Nat → Int) (a : Nat) : Int := if c a < 0 then cap a - rc (2 * a + 1) else rc (2 * a + 1)
def ns_sg (adj : Nat → Int) (m : Nat) (rc : Nat → Int) (u : Nat) : Int := if 0 < adj u then rc (2 * (m + ns_cnt adj u) + 1) else if adj u < 0 then - rc (2 * (m + ns_cnt adj u) + 1) else 0
theorem ns_y_net {n m : Nat} {tl hd : Nat → Nat} {b c cap adj : Nat → Int} {fr tt : Nat → Nat} {ln rc : Nat → Int} (hY : ns_YE n m tl hd c adj fr tt ln)
    (w : Nat) (hw : w < n) : ns_li (ns_wv fr tt w) rc (m + ns_cnt adj n) = (ns_exc b tl hd (ns_yy c cap rc) m w - ns_exc b tl hd (ns_y0 c cap) m w) + ns_sg adj m rc w := by
  obtain ⟨y1, y2, y3⟩ := hY
  unfold ns_li
  rw [ns_cnt_sum]
  have e1 : ns_sm (fun a => ns_yy c cap rc a * (ns_ind (hd a) w - ns_ind (tl a) w)) m = ns_sm (fun a => ns_y0 c cap a * (ns_ind (hd a) w - ns_ind (tl a) w)) m + ns_sm (fun j => ns_wv fr tt w (2 * j) * rc (2 * j + 1)) m := by
    rw [← ns_sm_add]
    refine ns_sm_c m (fun a ha => ?_)
    show ns_yy c cap rc a * (ns_ind (hd a) w - ns_ind (tl a) w) = ns_y0 c cap a * (ns_ind (hd a) w - ns_ind (tl a) w) + ns_wv fr tt w (2 * a) * rc (2 * a + 1)
    unfold ns_yy ns_y0 ns_wv
    by_cases k : c a < 0
    · obtain ⟨b1, b2, b3⟩ := (y1 a ha).1 k
      rw [if_pos k, if_pos k, b1, b2, Int.sub_mul, Int.mul_comm (rc _), ← Int.neg_sub (ns_ind (hd a) w), Int.neg_mul]
      omega
    · obtain ⟨b1, b2, b3⟩ := (y1 a ha).2 k
      rw [if_neg k, if_neg k, b1, b2, Int.zero_mul, Int.mul_comm]
      omega
  have e2 : ns_sm (fun u => if adj u = 0 then 0 else ns_wv fr tt w (2 * (m + ns_cnt adj u)) * rc (2 * (m + ns_cnt adj u) + 1)) n = ns_sm (fun u => ns_sg adj m rc u * ns_ind w u) n := by
    refine ns_sm_c n (fun u hu => ?_)
    show (if adj u = 0 then 0 else ns_wv fr tt w (2 * (m + ns_cnt adj u)) * rc (2 * (m + ns_cnt adj u) + 1)) = ns_sg adj m rc u * ns_ind w u
    unfold ns_sg ns_wv
    by_cases k : adj u = 0
    · rw [if_pos k, if_neg (by omega), if_neg (by omega), Int.zero_mul]
    · rw [if_neg k]
      by_cases k' : 0 < adj u
      · obtain ⟨b1, b2, b3⟩ := (y2 u hu).1 k'
        rw [if_pos k', b1, b2, ns_ind_0 (a := n) (b := w) (by omega), ns_ind_c u w, Int.sub_zero, Int.mul_comm]
      · obtain ⟨b1, b2, b3⟩ := (y2 u hu).2 (by omega)
        rw [if_neg k', if_pos (by omega), b1, b2, ns_ind_0 (a := n + 1) (b := w) (by omega), ns_ind_c u w, Int.zero_sub, Int.neg_mul, Int.neg_mul, Int.mul_comm]
  rw [e2, ns_sm_ind (fun u => ns_sg adj m rc u) w n hw]
  unfold ns_exc
  omega
theorem ns_y_src {n m : Nat} {tl hd : Nat → Nat} {c adj : Nat → Int} {fr tt : Nat → Nat} {ln rc : Nat → Int} (hr : ∀ a, a < m → hd a < n ∧ tl a < n) (hY : ns_YE n m tl hd c adj fr tt ln) :
    ns_li (ns_wv fr tt n) rc (m + ns_cnt adj n) = - ns_sm (fun u => if 0 < adj u then rc (2 * (m + ns_cnt adj u) + 1) else 0) n := by
  obtain ⟨y1, y2, y3⟩ := hY
  unfold ns_li
  rw [ns_cnt_sum]
  have e1 : ns_sm (fun j => ns_wv fr tt n (2 * j) * rc (2 * j + 1)) m = 0 := by
    refine ns_sm_z m (fun a ha => ?_)
    show ns_wv fr tt n (2 * a) * rc (2 * a + 1) = 0
    have h1 := hr a ha
    unfold ns_wv
    by_cases k : c a < 0
    · obtain ⟨b1, b2, b3⟩ := (y1 a ha).1 k
      rw [b1, b2, ns_ind_0 (by omega), ns_ind_0 (by omega), Int.sub_self, Int.zero_mul]
    · obtain ⟨b1, b2, b3⟩ := (y1 a ha).2 k
      rw [b1, b2, ns_ind_0 (by omega), ns_ind_0 (by omega), Int.sub_self, Int.zero_mul]
  have e2 : ns_sm (fun u => if adj u = 0 then 0 else ns_wv fr tt n (2 * (m + ns_cnt adj u)) * rc (2 * (m + ns_cnt adj u) + 1)) n = ns_sm (fun u => (-1) * (if 0 < adj u then rc (2 * (m + ns_cnt adj u) + 1) else 0)) n := by
    refine ns_sm_c n (fun u hu => ?_)
    show (if adj u = 0 then 0 else ns_wv fr tt n (2 * (m + ns_cnt adj u)) * rc (2 * (m + ns_cnt adj u) + 1)) = (-1) * (if 0 < adj u then rc (2 * (m + ns_cnt adj u) + 1) else 0)
    unfold ns_wv
    by_cases k : adj u = 0
    · rw [if_pos k, if_neg (by omega)]; rfl
    · rw [if_neg k]
      by_cases k' : 0 < adj u
      · obtain ⟨b1, b2, b3⟩ := (y2 u hu).1 k'
        rw [if_pos k', b1, b2, ns_ind_0 (a := u) (b := n) (by omega), ns_ind_1]
        omega
      · obtain ⟨b1, b2, b3⟩ := (y2 u hu).2 (by omega)
        rw [if_neg k', b1, b2, ns_ind_0 (a := n + 1) (b := n) (by omega), ns_ind_0 (a := u) (b := n) (by omega)]
        omega
  rw [e1, e2, ns_sm_mul]
  omega
theorem ns_y_cost {n m : Nat} {tl hd : Nat → Nat} {c cap adj : Nat → Int} {fr tt : Nat → Nat} {ln rc : Nat → Int} (hY : ns_YE n m tl hd c adj fr tt ln) :
    ns_li ln rc (m + ns_cnt adj n) = ns_sm (fun a => c a * ns_yy c cap rc a) m - ns_sm (fun a => c a * ns_y0 c cap a) m := by
  obtain ⟨y1, y2, y3⟩ := hY
  unfold ns_li
  rw [ns_cnt_sum]
  have e1 : ns_sm (fun a => c a * ns_yy c cap rc a) m = ns_sm (fun a => c a * ns_y0 c cap a) m + ns_sm (fun j => ln (2 * j) * rc (2 * j + 1)) m := by
    rw [← ns_sm_add]
    refine ns_sm_c m (fun a ha => ?_)
    show c a * ns_yy c cap rc a = c a * ns_y0 c cap a + ln (2 * a) * rc (2 * a + 1)
    unfold ns_yy ns_y0
    by_cases k : c a < 0
    · obtain ⟨b1, b2, b3⟩ := (y1 a ha).1 k
      rw [if_pos k, if_pos k, b3, Int.mul_sub, Int.neg_mul]
      omega
    · obtain ⟨b1, b2, b3⟩ := (y1 a ha).2 k
      rw [if_neg k, if_neg k, b3, Int.mul_zero]
      omega
  have e2 : ns_sm (fun u => if adj u = 0 then 0 else ln (2 * (m + ns_cnt adj u)) * rc (2 * (m + ns_cnt adj u) + 1)) n = 0 := by
    refine ns_sm_z n (fun u hu => ?_)
    show (if adj u = 0 then 0 else ln (2 * (m + ns_cnt adj u)) * rc (2 * (m + ns_cnt adj u) + 1)) = 0
    by_cases k : adj u = 0
    · rw [if_pos k]
    · rw [if_neg k]
      by_cases k' : 0 < adj u
      · obtain ⟨b1, b2, b3⟩ := (y2 u hu).1 k'
        rw [b3, Int.zero_mul]
      · obtain ⟨b1, b2, b3⟩ := (y2 u hu).2 (by omega)
        rw [b3, Int.zero_mul]
  rw [e2]
  omega
/-- the reference between two pushes: F is what has flowed, Q what it cost -/
def ns_YI (n m : Nat) (cap adj : Nat → Int) (fr tt : Nat → Nat) (ln rc : Nat → Int) (F Q : Int) : Prop :=
  (∀ e, e < 2 * (m + ns_cnt adj n) → 0 ≤ rc e) ∧
  (∀ a, a < m → rc (2 * a) + rc (2 * a + 1) = cap a) ∧
  (∀ v, v < n → (0 < adj v → rc (2 * (m + ns_cnt adj v)) + rc (2 * (m + ns_cnt adj v) + 1) = adj v) ∧ (adj v < 0 → rc (2 * (m + ns_cnt adj v)) + rc (2 * (m + ns_cnt adj v) + 1) = - adj v)) ∧
  (∀ v, v < n → ns_li (ns_wv fr tt v) rc (m + ns_cnt adj n) = 0) ∧
  ns_li (ns_wv fr tt n) rc (m + ns_cnt adj n) = - F ∧ ns_li ln rc (m + ns_cnt adj n) = Q ∧
  (∃ π, ns_Pot (m + ns_cnt adj n) fr tt ln rc π)
theorem ns_YI_0 {n m : Nat} {tl hd : Nat → Nat} {c cap adj : Nat → Int} {fr tt : Nat → Nat} {ln rc : Nat → Int} (hY : ns_YE n m tl hd c adj fr tt ln)
    (hcap : ∀ a, a < m → 0 ≤ cap a) (h1 : ∀ a, a < m → rc (2 * a) = cap a) (h2 : ∀ v, v < n → (0 < adj v → rc (2 * (m + ns_cnt adj v)) = adj v) ∧ (adj v < 0 → rc (2 * (m + ns_cnt adj v)) = - adj v))
    (h3 : ∀ j, j < m + ns_cnt adj n → rc (2 * j + 1) = 0) : ns_YI n m cap adj fr tt ln rc 0 0 := by
  have cl : ∀ v, v < n → adj v ≠ 0 → m + ns_cnt adj v < m + ns_cnt adj n := fun v hv hz => by have := ns_cnt_lt hv hz; omega
  have z : ∀ w : Nat → Int, ns_li w rc (m + ns_cnt adj n) = 0 := by
    intro w
    refine ns_sm_z _ (fun j hj => ?_)
    show w (2 * j) * rc (2 * j + 1) = 0
    rw [h3 j hj, Int.mul_zero]
  have ev : ∀ j, j < m + ns_cnt adj n → 0 ≤ rc (2 * j) := by
    intro j hj
    rcases ns_cnt_in n j hj with k | ⟨u, hu, hz, k⟩
    · rw [h1 j k]; exact hcap j k
    · rw [k]
      by_cases hk : 0 < adj u
      · rw [(h2 u hu).1 hk]; omega
      · rw [(h2 u hu).2 (by omega)]; omega
  refine ⟨fun e he => ?_, fun a ha => ?_, fun v hv => ⟨fun k => ?_, fun k => ?_⟩, fun v _ => z _, z _, z _, fun _ => 0, fun e he hr => ?_⟩
  · rcases ns_ev e with ⟨k, e1, _⟩ | ⟨k, e1, _⟩
    · rw [e1]; exact ev k (by omega)
    · rw [e1, h3 k (by omega)]; exact Int.le_refl _
  · rw [h1 a ha, h3 a (by omega)]; omega
  · rw [(h2 v hv).1 k, h3 _ (cl v hv (by omega))]; omega
  · rw [(h2 v hv).2 k, h3 _ (cl v hv (by omega))]; omega
  · rcases ns_ev e with ⟨k, e1, _⟩ | ⟨k, e1, _⟩
    · rw [e1]
      obtain ⟨y1, y2, y3⟩ := hY
      show (0 : Int) ≤ 0 + ln (2 * k)
      rcases ns_cnt_in (adj := adj) (m := m) n k (by omega) with q | ⟨u, hu, hz, q⟩
      · by_cases hk : c k < 0
        · rw [((y1 k q).1 hk).2.2]; omega
        · rw [((y1 k q).2 hk).2.2]; omega
      · rw [q]
        by_cases hk : 0 < adj u
        · rw [((y2 u hu).1 hk).2.2]; omega
        · rw [((y2 u hu).2 (by omega)).2.2]; omega
    · rw [e1, h3 k (by omega)] at hr
      omega
/-- what the network between two pushes says of the flow on the arcs -/
theorem ns_YI_flow {n m : Nat} {tl hd : Nat → Nat} {b c cap adj : Nat → Int} {fr tt : Nat → Nat} {ln rc : Nat → Int} {F Q : Int} (hr : ∀ a, a < m → hd a < n ∧ tl a < n)
    (hY : ns_YE n m tl hd c adj fr tt ln) (hadj : ∀ v, v < n → adj v = ns_exc b tl hd (ns_y0 c cap) m v) (hI : ns_YI n m cap adj fr tt ln rc F Q) :
    (∀ a, a < m → 0 ≤ ns_yy c cap rc a ∧ ns_yy c cap rc a ≤ cap a) ∧
    (∀ v, v < n → (0 < adj v → ns_exc b tl hd (ns_yy c cap rc) m v = rc (2 * (m + ns_cnt adj v)) ∧ 0 ≤ rc (2 * (m + ns_cnt adj v))) ∧
      (adj v < 0 → ns_exc b tl hd (ns_yy c cap rc) m v = - rc (2 * (m + ns_cnt adj v)) ∧ 0 ≤ rc (2 * (m + ns_cnt adj v))) ∧ (adj v = 0 → ns_exc b tl hd (ns_yy c cap rc) m v = 0)) ∧
    ns_P (fun v => ns_exc b tl hd (ns_yy c cap rc) m v) n = ns_P adj n - F ∧
    ns_sm (fun a => c a * ns_yy c cap rc a) m = ns_sm (fun a => c a * ns_y0 c cap a) m + Q := by
  obtain ⟨i1, i2, i3, i4, i5, i6, i7⟩ := hI
  have cl : ∀ v, v < n → adj v ≠ 0 → m + ns_cnt adj v < m + ns_cnt adj n := fun v hv hz => by have := ns_cnt_lt hv hz; omega
  have f2 : ∀ v, v < n → (0 < adj v → ns_exc b tl hd (ns_yy c cap rc) m v = rc (2 * (m + ns_cnt adj v)) ∧ 0 ≤ rc (2 * (m + ns_cnt adj v))) ∧
      (adj v < 0 → ns_exc b tl hd (ns_yy c cap rc) m v = - rc (2 * (m + ns_cnt adj v)) ∧ 0 ≤ rc (2 * (m + ns_cnt adj v))) ∧ (adj v = 0 → ns_exc b tl hd (ns_yy c cap rc) m v = 0) := by
    intro v hv
    have a := ns_y_net (b := b) (cap := cap) (rc := rc) hY v hv
    rw [i4 v hv, ← hadj v hv] at a
    unfold ns_sg at a
    refine ⟨fun k => ?_, fun k => ?_, fun k => ?_⟩
    · rw [if_pos k] at a
      have p := (i3 v hv).1 k
      have q := i1 (2 * (m + ns_cnt adj v)) (by have := cl v hv (by omega); omega)
      exact ⟨by omega, q⟩
    · rw [if_neg (by omega), if_pos k] at a
      have p := (i3 v hv).2 k
      have q := i1 (2 * (m + ns_cnt adj v)) (by have := cl v hv (by omega); omega)
      exact ⟨by omega, q⟩
    · rw [if_neg (by omega), if_neg (by omega)] at a
      omega
  refine ⟨fun a ha => ?_, f2, ?_, ?_⟩
  · have p := i2 a ha
    have q := i1 (2 * a) (by omega)
    have q' := i1 (2 * a + 1) (by omega)
    unfold ns_yy
    split <;> omega
  · have s := ns_y_src (rc := rc) hr hY
    rw [i5] at s
    have t : ns_P (fun v => ns_exc b tl hd (ns_yy c cap rc) m v) n = ns_sm (fun v => ns_ps (adj v) - (if 0 < adj v then rc (2 * (m + ns_cnt adj v) + 1) else 0)) n := by
      refine ns_sm_c n (fun v hv => ?_)
      show ns_ps (ns_exc b tl hd (ns_yy c cap rc) m v) = ns_ps (adj v) - (if 0 < adj v then rc (2 * (m + ns_cnt adj v) + 1) else 0)
      obtain ⟨g1, g2, g3⟩ := f2 v hv
      by_cases k : 0 < adj v
      · have p := (i3 v hv).1 k
        rw [(g1 k).1, if_pos k]
        have := (g1 k).2
        unfold ns_ps
        rw [if_pos k]
        split <;> omega
      · rw [if_neg k]
        by_cases k' : adj v < 0
        · rw [(g2 k').1]
          have := (g2 k').2
          unfold ns_ps
          rw [if_neg k, if_neg (by omega)]; omega
        · rw [g3 (by omega)]
          unfold ns_ps
          rw [if_neg k, if_neg (by omega)]; omega
    rw [t, ns_sm_sub]
    have u : ns_P adj n = ns_sm (fun v => ns_ps (adj v)) n := rfl
    omega
  · have := ns_y_cost (cap := cap) (rc := rc) hY
    omega
/-- one push of the reference -/
theorem ns_YI_push {n m : Nat} {tl hd : Nat → Nat} {c cap adj : Nat → Int} {fr tt : Nat → Nat} {ln rc π : Nat → Int} {F Q U hi a : Int} {src : Nat → Bool} {d : Nat → Int} {p : Nat → Option Nat} {es : List Nat}
    (hG : ns_G (n + 2) (m + ns_cnt adj n) fr tt ln) (hI : ns_YI n m cap adj fr tt ln rc F Q)
    (hB : ns_B (n + 2) (m + ns_cnt adj n) fr tt ln rc U src hi d p) (hU : hi + 50 < U) (hC : ns_C (m + ns_cnt adj n) fr tt ln rc U (2 * (m + ns_cnt adj n)) d) (hP : ns_Pot (m + ns_cnt adj n) fr tt ln rc π)
    (hp : ns_path fr p n (n + 1) es) (ha : 0 ≤ a) (hle : ∀ e, e ∈ es → a ≤ rc e) (hd0 : d n = 0) :
    ns_YI n m cap adj fr tt ln (ns_pu a es rc) (F + a) (Q + a * d (n + 1)) := by
  obtain ⟨i1, i2, i3, i4, i5, i6, i7⟩ := hI
  have he := ns_path_e hG hB hC es (n + 1) (by omega) hp
  obtain ⟨a1, a2, a3⟩ := ns_aug hG hB hU hC hP (by omega : n + 1 < n + 2) hp ha hle i1
  refine ⟨a1, fun k hk => ?_, fun v hv => ⟨fun k => ?_, fun k => ?_⟩, fun v hv => ?_, ?_, ?_, a2⟩
  · rw [ns_pu_s]; exact i2 k hk
  · rw [ns_pu_s]; exact (i3 v hv).1 k
  · rw [ns_pu_s]; exact (i3 v hv).2 k
  · rw [a3 (ns_wv fr tt v) (fun u => ns_ind u v) (ns_wv_fl hG v) (fun e _ => rfl), i4 v hv, ns_ind_0 (by omega), ns_ind_0 (by omega)]
    omega
  · rw [a3 (ns_wv fr tt n) (fun u => ns_ind u n) (ns_wv_fl hG n) (fun e _ => rfl), i5, ns_ind_0 (by omega), ns_ind_1]
    omega
  · rw [a3 ln d (fun e he' => (hG e he').2.2.2.2.2.1) (fun e hes => by have := (he e hes).2.2.1; omega), i6, hd0, Int.sub_zero]
/-- the end of the reference's pushes: t is not reached -/
theorem ns_Y_cl {n m : Nat} {tl hd : Nat → Nat} {b c cap adj : Nat → Int} {fr tt : Nat → Nat} {ln rc : Nat → Int} {F Q U hi : Int} {src : Nat → Bool} {d : Nat → Int} {p : Nat → Option Nat} (hr : ∀ a, a < m → hd a < n ∧ tl a < n)
    (hG : ns_G (n + 2) (m + ns_cnt adj n) fr tt ln) (hY : ns_YE n m tl hd c adj fr tt ln) (hadj : ∀ v, v < n → adj v = ns_exc b tl hd (ns_y0 c cap) m v) (hI : ns_YI n m cap adj fr tt ln rc F Q)
    (Z : Nat → Bool) (hZ : ns_cA (m + ns_cnt adj n) fr tt rc (2 * (m + ns_cnt adj n)) Z) (hs : ¬ Z n = true) (ht : Z (n + 1) = true) :
    ns_Cl n m tl hd cap (fun v => ns_exc b tl hd (ns_yy c cap rc) m v) (ns_yy c cap rc) Z := by
  obtain ⟨f1, f2, f3, f4⟩ := ns_YI_flow hr hY hadj hI
  obtain ⟨i1, i2, i3, i4, i5, i6, i7⟩ := hI
  obtain ⟨y1, y2, y3⟩ := hY
  have cl : ∀ v, v < n → adj v ≠ 0 → m + ns_cnt adj v < m + ns_cnt adj n := fun v hv hz => by have := ns_cnt_lt hv hz; omega
  refine ⟨fun v hv k => ?_, fun v hv k => ?_, fun a ha k wh => ?_, fun a ha k wt => ?_⟩
  · obtain ⟨g1, g2, g3⟩ := f2 v hv
    have k : ns_exc b tl hd (ns_yy c cap rc) m v < 0 := k
    by_cases q : 0 < adj v
    · have := g1 q; omega
    · by_cases q' : adj v < 0
      · have := g2 q'
        obtain ⟨b1, b2, b3⟩ := (y2 v hv).2 q'
        have c1 := cl v hv (by omega)
        have z := hZ (2 * (m + ns_cnt adj v)) (by omega) (by omega) (by omega)
        rw [b1, b2] at z
        exact z ht
      · have := g3 (by omega); omega
  · obtain ⟨g1, g2, g3⟩ := f2 v hv
    show ns_exc b tl hd (ns_yy c cap rc) m v ≤ 0
    by_cases q : 0 < adj v
    · have := g1 q
      obtain ⟨b1, b2, b3⟩ := (y2 v hv).1 q
      have c1 := cl v hv (by omega)
      by_cases w : 0 < rc (2 * (m + ns_cnt adj v))
      · have z := hZ (2 * (m + ns_cnt adj v)) (by omega) (by omega) w
        rw [b1, b2] at z
        exact absurd (z k) hs
      · omega
    · by_cases q' : adj v < 0
      · have := g2 q'; omega
      · have := g3 (by omega); omega
  · obtain ⟨b1, b2, b3⟩ := y3 a (by omega)
    have s := i2 a ha
    unfold ns_yy at k
    by_cases q : c a < 0
    · rw [if_pos q] at k
      obtain ⟨d1, d2, d3⟩ := (y1 a ha).1 q
      have z := hZ (2 * a + 1) (by omega) (by omega) (by omega)
      rw [b1, b2, d1, d2] at z
      exact z wh
    · rw [if_neg q] at k
      obtain ⟨d1, d2, d3⟩ := (y1 a ha).2 q
      have z := hZ (2 * a) (by omega) (by omega) (by omega)
      rw [d1, d2] at z
      exact z wh
  · obtain ⟨b1, b2, b3⟩ := y3 a (by omega)
    have s := i2 a ha
    unfold ns_yy at k
    by_cases q : c a < 0
    · rw [if_pos q] at k
      obtain ⟨d1, d2, d3⟩ := (y1 a ha).1 q
      have z := hZ (2 * a) (by omega) (by omega) (by omega)
      rw [d1, d2] at z
      exact z wt
    · rw [if_neg q] at k
      obtain ⟨d1, d2, d3⟩ := (y1 a ha).2 q
      have z := hZ (2 * a + 1) (by omega) (by omega) (by omega)
      rw [b1, b2, d1, d2] at z
      exact z wt
/-- and back: a closed set of the nodes, with t, is closed in the network -/
theorem ns_Y_cA {n m : Nat} {tl hd : Nat → Nat} {b c cap adj : Nat → Int} {fr tt : Nat → Nat} {ln rc : Nat → Int} {F Q : Int} (hr : ∀ a, a < m → hd a < n ∧ tl a < n)
    (hY : ns_YE n m tl hd c adj fr tt ln) (hadj : ∀ v, v < n → adj v = ns_exc b tl hd (ns_y0 c cap) m v) (hI : ns_YI n m cap adj fr tt ln rc F Q)
    (Z : Nat → Bool) (hZ : ns_Cl n m tl hd cap (fun v => ns_exc b tl hd (ns_yy c cap rc) m v) (ns_yy c cap rc) Z) :
    ns_cA (m + ns_cnt adj n) fr tt rc (2 * (m + ns_cnt adj n)) (fun v => if v < n then Z v else decide (v = n + 1)) := by
  obtain ⟨f1, f2, f3, f4⟩ := ns_YI_flow hr hY hadj hI
  obtain ⟨i1, i2, i3, i4, i5, i6, i7⟩ := hI
  obtain ⟨y1, y2, y3⟩ := hY
  obtain ⟨z1, z2, z3, z4⟩ := hZ
  intro e he _ hrc
  dsimp only
  rcases ns_ev e with ⟨k, e1, _⟩ | ⟨k, e1, _⟩
  · rw [e1] at hrc ⊢
    rcases ns_cnt_in (adj := adj) (m := m) n k (by omega) with q | ⟨u, hu, hz, q⟩
    · have h1 := hr k q
      have s := i2 k q
      by_cases w : c k < 0
      · obtain ⟨d1, d2, d3⟩ := (y1 k q).1 w
        rw [d1, d2, if_pos h1.1, if_pos h1.2]
        exact z4 k q (by unfold ns_yy; rw [if_pos w]; omega)
      · obtain ⟨d1, d2, d3⟩ := (y1 k q).2 w
        rw [d1, d2, if_pos h1.1, if_pos h1.2]
        exact z3 k q (by unfold ns_yy; rw [if_neg w]; omega)
    · obtain ⟨g1, g2, g3⟩ := f2 u hu
      rw [q] at hrc ⊢
      by_cases w : 0 < adj u
      · obtain ⟨d1, d2, d3⟩ := (y2 u hu).1 w
        have := g1 w
        rw [d1, d2, if_pos hu]
        intro zu
        have : ns_exc b tl hd (ns_yy c cap rc) m u ≤ 0 := z2 u hu zu
        omega
      · obtain ⟨d1, d2, d3⟩ := (y2 u hu).2 (by omega)
        have := g2 (by omega)
        rw [d1, d2, if_pos hu]
        intro _
        exact z1 u hu (by show ns_exc b tl hd (ns_yy c cap rc) m u < 0; omega)
  · rw [e1] at hrc ⊢
    obtain ⟨b1, b2, b3⟩ := y3 k (by omega)
    rw [b1, b2]
    rcases ns_cnt_in (adj := adj) (m := m) n k (by omega) with q | ⟨u, hu, hz, q⟩
    · have h1 := hr k q
      have s := i2 k q
      by_cases w : c k < 0
      · obtain ⟨d1, d2, d3⟩ := (y1 k q).1 w
        rw [d1, d2, if_pos h1.1, if_pos h1.2]
        exact z3 k q (by unfold ns_yy; rw [if_pos w]; omega)
      · obtain ⟨d1, d2, d3⟩ := (y1 k q).2 w
        rw [d1, d2, if_pos h1.1, if_pos h1.2]
        exact z4 k q (by unfold ns_yy; rw [if_neg w]; omega)
    · rw [q]
      by_cases w : 0 < adj u
      · obtain ⟨d1, d2, d3⟩ := (y2 u hu).1 w
        rw [d1, d2, if_neg (by omega)]
        intro zn
        exact absurd (of_decide_eq_true zn) (by omega)
      · obtain ⟨d1, d2, d3⟩ := (y2 u hu).2 (by omega)
        rw [d1, d2, if_neg (show ¬ n + 1 < n by omega)]
        intro _
        exact decide_eq_true rfl
end
section
/-! 06: the class between two pushes; the seal of both -/
def ns_XI (n m : Nat) (tl hd : Nat → Nat) (b c cap x e : Nat → Int) : Prop :=
  (∀ a, a < m → 0 ≤ x a ∧ x a ≤ cap a) ∧ (∀ v, v < n → e v = ns_exc b tl hd x m v) ∧ (∃ π, ns_Pot m (ns_xf tl hd) (ns_xf hd tl) (ns_xl c) (ns_xr cap x) π)
theorem ns_XI_nn {n m : Nat} {tl hd : Nat → Nat} {b c cap x e : Nat → Int} (h : ns_XI n m tl hd b c cap x e) : ∀ f, f < 2 * m → 0 ≤ ns_xr cap x f := by
  intro f hf
  rcases ns_ev f with ⟨k, e1, _⟩ | ⟨k, e1, _⟩
  · have := h.1 k (by omega)
    rw [e1, ns_xr_0]; omega
  · have := h.1 k (by omega)
    rw [e1, ns_xr_1]; omega
theorem ns_XI_0 {n m : Nat} {tl hd : Nat → Nat} {b c cap x e : Nat → Int} (hcap : ∀ a, a < m → 0 ≤ cap a) (hx : ∀ a, a < m → x a = ns_y0 c cap a) (he : ∀ v, v < n → e v = ns_exc b tl hd x m v) :
    ns_XI n m tl hd b c cap x e := by
  refine ⟨fun a ha => ?_, he, fun _ => 0, fun f hf hr => ?_⟩
  · have := hcap a ha
    rw [hx a ha]
    unfold ns_y0
    split <;> omega
  · show (0 : Int) ≤ 0 + ns_xl c f
    rcases ns_ev f with ⟨k, e1, _⟩ | ⟨k, e1, _⟩
    · rw [e1, ns_xr_0, hx k (by omega)] at hr
      rw [e1, ns_xl_0]
      unfold ns_y0 at hr
      split at hr <;> omega
    · rw [e1, ns_xr_1, hx k (by omega)] at hr
      rw [e1, ns_xl_1]
      unfold ns_y0 at hr
      split at hr <;> omega
theorem ns_XI_push {n m : Nat} {tl hd : Nat → Nat} {b c cap x x' e e' π : Nat → Int} {U hi a : Int} {d : Nat → Int} {p : Nat → Option Nat} {es : List Nat} {t r : Nat} {src : Nat → Bool}
    (hG : ns_G n m (ns_xf tl hd) (ns_xf hd tl) (ns_xl c)) (hI : ns_XI n m tl hd b c cap x e)
    (hB : ns_B n m (ns_xf tl hd) (ns_xf hd tl) (ns_xl c) (ns_xr cap x) U src hi d p) (hU : hi + 50 < U) (hC : ns_C m (ns_xf tl hd) (ns_xf hd tl) (ns_xl c) (ns_xr cap x) U (2 * m) d)
    (hP : ns_Pot m (ns_xf tl hd) (ns_xf hd tl) (ns_xl c) (ns_xr cap x) π)
    (ht : t < n) (hrn : r < n) (hp : ns_path (ns_xf tl hd) p r t es) (ha : 0 ≤ a) (hle : ∀ f, f ∈ es → a ≤ ns_xr cap x f)
    (h1 : a ≤ - e t) (h2 : a ≤ e r) (h3 : e t < 0) (h4 : 0 < e r)
    (hx' : ns_xr cap x' = ns_pu a es (ns_xr cap x)) (he' : ∀ v, v < n → e' v = if v = t then e t + a else if v = r then e r - a else e v) :
    ns_XI n m tl hd b c cap x' e' ∧ ns_P e' n = ns_P e n - a := by
  have nn := ns_XI_nn hI
  obtain ⟨i1, i2, i3⟩ := hI
  obtain ⟨a1, a2, a3⟩ := ns_aug hG hB hU hC hP ht hp ha hle nn
  rw [← hx'] at a1 a2 a3
  have htr : t ≠ r := by intro k; rw [k] at h3; omega
  refine ⟨⟨fun k hk => ?_, fun v hv => ?_, a2⟩, ?_⟩
  · have q1 := a1 (2 * k) (by omega)
    have q2 := a1 (2 * k + 1) (by omega)
    rw [ns_xr_0] at q1
    rw [ns_xr_1] at q2
    omega
  · have q := a3 (ns_wv (ns_xf tl hd) (ns_xf hd tl) v) (fun u => ns_ind u v) (ns_wv_fl hG v) (fun e _ => rfl)
    have o := i2 v hv
    rw [ns_x_exc b tl hd cap x m v] at o
    rw [he' v hv, ns_x_exc b tl hd cap x' m v, q]
    by_cases k : v = t
    · rw [if_pos k, k, ns_ind_1, ns_ind_0 (fun z => htr z.symm)]
      rw [k] at o
      omega
    · rw [if_neg k, ns_ind_0 (fun z => k z.symm)]
      by_cases k' : v = r
      · rw [if_pos k', k', ns_ind_1]
        rw [k'] at o
        omega
      · rw [if_neg k', ns_ind_0 (fun z => k' z.symm)]
        omega
  · unfold ns_P
    rw [ns_sm_u (f := fun v => ns_ps (e v)) (g := fun v => ns_ps (e' v)) r n hrn (fun v hv hn => by
      show ns_ps (e' v) = ns_ps (e v)
      rw [he' v hv, if_neg hn]
      by_cases k : v = t
      · rw [if_pos k, k]
        unfold ns_ps
        rw [if_neg (by omega), if_neg (by omega)]
      · rw [if_neg k])]
    rw [he' r hrn, if_neg (fun z => htr z.symm), if_pos rfl]
    unfold ns_ps
    rw [if_pos h4]
    split <;> omega
/-- at the end no deficit is reached -/
theorem ns_X_cl {n m : Nat} {tl hd : Nat → Nat} {c cap x e : Nat → Int} {U hi : Int} {d : Nat → Int} {p : Nat → Option Nat} {src : Nat → Bool}
    (hG : ns_G n m (ns_xf tl hd) (ns_xf hd tl) (ns_xl c))
    (hB : ns_B n m (ns_xf tl hd) (ns_xf hd tl) (ns_xl c) (ns_xr cap x) U src hi d p) (hU : hi + 50 < U) (hU0 : 0 < U) (hC : ns_C m (ns_xf tl hd) (ns_xf hd tl) (ns_xl c) (ns_xr cap x) U (2 * m) d)
    (hs : ∀ v, v < n → 0 < e v → src v = true) (hd0 : ∀ v, v < n → e v < 0 → d v = U) : ns_Cl n m tl hd cap e x (fun v => decide (d v = U)) := by
  refine ⟨fun v hv k => decide_eq_true (hd0 v hv k), fun v hv k => ?_, fun a ha k w => ?_, fun a ha k w => ?_⟩
  · have k : d v = U := of_decide_eq_true k
    by_cases q : 0 < e v
    · have := hB.2.2.2.1 v hv (hs v hv q)
      omega
    · omega
  · have w : d (hd a) = U := of_decide_eq_true w
    have z := ns_CU (e := 2 * a) hG hB hU hC (by omega) (by rw [ns_xr_0]; omega) (by rw [ns_xf_0]; exact w)
    rw [ns_xf_0] at z
    exact decide_eq_true z
  · have w : d (tl a) = U := of_decide_eq_true w
    have z := ns_CU (e := 2 * a + 1) hG hB hU hC (by omega) (by rw [ns_xr_1]; omega) (by rw [ns_xf_1]; exact w)
    rw [ns_xf_1] at z
    exact decide_eq_true z
/-- a set closed in the class's graph, and back -/
theorem ns_X_cA {m : Nat} {tl hd : Nat → Nat} {cap x : Nat → Int} {Z : Nat → Bool} :
    ns_cA m (ns_xf tl hd) (ns_xf hd tl) (ns_xr cap x) (2 * m) Z ↔ (∀ a, a < m → x a < cap a → Z (hd a) = true → Z (tl a) = true) ∧ (∀ a, a < m → 0 < x a → Z (tl a) = true → Z (hd a) = true) := by
  constructor
  · intro h
    refine ⟨fun a ha k w => ?_, fun a ha k w => ?_⟩
    · have z := h (2 * a) (by omega) (by omega) (by rw [ns_xr_0]; omega) (by rw [ns_xf_0]; exact w)
      rw [ns_xf_0] at z
      exact z
    · have z := h (2 * a + 1) (by omega) (by omega) (by rw [ns_xr_1]; omega) (by rw [ns_xf_1]; exact w)
      rw [ns_xf_1] at z
      exact z
  · intro ⟨h1, h2⟩ e he _ hr w
    rcases ns_ev e with ⟨k, e1, _⟩ | ⟨k, e1, _⟩
    · rw [e1, ns_xr_0] at hr
      rw [e1, ns_xf_0] at w
      rw [e1, ns_xf_0]
      exact h1 k (by omega) (by omega) w
    · rw [e1, ns_xr_1] at hr
      rw [e1, ns_xf_1] at w
      rw [e1, ns_xf_1]
      exact h2 k (by omega) (by omega) w
/-- what a solve over a balanced network ends with, on either side -/
def ns_Fin (n m : Nat) (tl hd : Nat → Nat) (b c cap x : Nat → Int) : Prop :=
  (∀ a, a < m → 0 ≤ x a ∧ x a ≤ cap a) ∧ (∃ Z, ns_Cl n m tl hd cap (fun v => ns_exc b tl hd x m v) x Z) ∧
  (∃ π : Nat → Int, ∀ a, a < m → (x a < cap a → π (hd a) ≤ π (tl a) + c a) ∧ (0 < x a → π (tl a) ≤ π (hd a) - c a))
def ns_Wit (n m : Nat) (tl hd : Nat → Nat) (b cap x : Nat → Int) (W : Nat → Bool) : Prop :=
  ns_Cl n m tl hd cap (fun v => ns_exc b tl hd x m v) x W ∧ ∀ Z, ns_Cl n m tl hd cap (fun v => ns_exc b tl hd x m v) x Z → ∀ v, v < n → W v = true → Z v = true
theorem ns_same {n m : Nat} {tl hd : Nat → Nat} {b c cap x y : Nat → Int} (hr : ∀ a, a < m → hd a < n ∧ tl a < n) (hb : ns_sm b n = 0)
    (hx : ns_Fin n m tl hd b c cap x) (hy : ns_Fin n m tl hd b c cap y) :
    ns_P (fun v => ns_exc b tl hd x m v) n = ns_P (fun v => ns_exc b tl hd y m v) n ∧
    (ns_P (fun v => ns_exc b tl hd x m v) n ≤ 0 → ns_sm (fun a => c a * x a) m = ns_sm (fun a => c a * y a) m) ∧
    (∀ W W', ns_Wit n m tl hd b cap x W → ns_Wit n m tl hd b cap y W' → ∀ v, v < n → W v = W' v) := by
  obtain ⟨x1, ⟨Zx, x2⟩, πx, x3⟩ := hx
  obtain ⟨y1, ⟨Zy, y2⟩, πy, y3⟩ := hy
  have dx := ns_dual (ex := fun v => ns_exc b tl hd x m v) (ey := fun v => ns_exc b tl hd y m v) hr y1 hb (fun _ _ => rfl) (fun _ _ => rfl) x2
  have dy := ns_dual (ex := fun v => ns_exc b tl hd y m v) (ey := fun v => ns_exc b tl hd x m v) hr x1 hb (fun _ _ => rfl) (fun _ _ => rfl) y2
  have eP : ns_P (fun v => ns_exc b tl hd x m v) n = ns_P (fun v => ns_exc b tl hd y m v) n := by omega
  refine ⟨eP, fun h0 => ?_, fun W W' hW hW' v hv => ?_⟩
  · have ex := ns_P_0 (e := fun v => ns_exc b tl hd x m v) h0 (ns_exc_tot hr hb)
    have ey := ns_P_0 (e := fun v => ns_exc b tl hd y m v) (by omega) (ns_exc_tot hr hb)
    have a1 := ns_cost hr y1 ex ey x3
    have a2 := ns_cost hr x1 ey ex y3
    omega
  · have c1 := (ns_dual (ex := fun v => ns_exc b tl hd x m v) (ey := fun v => ns_exc b tl hd y m v) hr y1 hb (fun _ _ => rfl) (fun _ _ => rfl) hW.1).2 (by omega)
    have c2 := (ns_dual (ex := fun v => ns_exc b tl hd y m v) (ey := fun v => ns_exc b tl hd x m v) hr x1 hb (fun _ _ => rfl) (fun _ _ => rfl) hW'.1).2 (by omega)
    have w1 := hW'.2 W c1 v hv
    have w2 := hW.2 W' c2 v hv
    cases h1 : W v with
    | true => rw [w2 h1]
    | false =>
      cases h2 : W' v with
      | false => rfl
      | true => rw [w1 h2] at h1; cases h1
theorem ns_Pot_x {m : Nat} {tl hd : Nat → Nat} {c cap x π : Nat → Int} (h : ns_Pot m (ns_xf tl hd) (ns_xf hd tl) (ns_xl c) (ns_xr cap x) π) :
    ∀ a, a < m → (x a < cap a → π (hd a) ≤ π (tl a) + c a) ∧ (0 < x a → π (tl a) ≤ π (hd a) - c a) := by
  intro a ha
  have z := h (2 * a) (by omega)
  have z' := h (2 * a + 1) (by omega)
  rw [ns_xf_0, ns_xf_0, ns_xl_0, ns_xr_0] at z
  rw [ns_xf_1, ns_xf_1, ns_xl_1, ns_xr_1] at z'
  exact ⟨fun k => z (by omega), fun k => by have := z' k; omega⟩
theorem ns_Pot_y {n m : Nat} {tl hd : Nat → Nat} {c cap adj : Nat → Int} {fr tt : Nat → Nat} {ln rc π : Nat → Int} (hY : ns_YE n m tl hd c adj fr tt ln) (hs : ∀ a, a < m → rc (2 * a) + rc (2 * a + 1) = cap a)
    (h : ns_Pot (m + ns_cnt adj n) fr tt ln rc π) :
    ∀ a, a < m → (ns_yy c cap rc a < cap a → π (hd a) ≤ π (tl a) + c a) ∧ (0 < ns_yy c cap rc a → π (tl a) ≤ π (hd a) - c a) := by
  intro a ha
  obtain ⟨y1, y2, y3⟩ := hY
  have z := h (2 * a) (by omega)
  have z' := h (2 * a + 1) (by omega)
  have s := hs a ha
  obtain ⟨b1, b2, b3⟩ := y3 a (by omega)
  rw [b1, b2, b3] at z'
  unfold ns_yy
  by_cases q : c a < 0
  · obtain ⟨d1, d2, d3⟩ := (y1 a ha).1 q
    rw [d1, d2, d3] at z z'
    rw [if_pos q]
    exact ⟨fun k => by have := z' (by omega); omega, fun k => by have := z (by omega); omega⟩
  · obtain ⟨d1, d2, d3⟩ := (y1 a ha).2 q
    rw [d1, d2, d3] at z z'
    rw [if_neg q]
    exact ⟨fun k => by have := z (by omega); omega, fun k => by have := z' (by omega); omega⟩
end
section
/-! 07: machine integers against integers; arrays as functions -/
theorem ni_add {a b : Int32} (h1 : -2147483648 ≤ a.toInt + b.toInt) (h2 : a.toInt + b.toInt < 2147483648) : (a + b).toInt = a.toInt + b.toInt := by
  rw [Int32.toInt_add]; exact Int.bmod_eq_of_le (by omega) (by omega)
theorem ni_sub {a b : Int32} (h1 : -2147483648 ≤ a.toInt - b.toInt) (h2 : a.toInt - b.toInt < 2147483648) : (a - b).toInt = a.toInt - b.toInt := by
  rw [Int32.toInt_sub]; exact Int.bmod_eq_of_le (by omega) (by omega)
theorem ni_neg {a : Int32} (h1 : -2147483648 ≤ - a.toInt) (h2 : - a.toInt < 2147483648) : (-a).toInt = - a.toInt := by
  rw [Int32.toInt_neg]; exact Int.bmod_eq_of_le (by omega) (by omega)
theorem ni_mul {a b : Int32} (h1 : -2147483648 ≤ a.toInt * b.toInt) (h2 : a.toInt * b.toInt < 2147483648) : (a * b).toInt = a.toInt * b.toInt := by
  rw [Int32.toInt_mul]; exact Int.bmod_eq_of_le (by omega) (by omega)
theorem ni_lt {a b : Int32} : a < b ↔ a.toInt < b.toInt := Int32.lt_iff_toInt_lt
theorem ni_le {a b : Int32} : a ≤ b ↔ a.toInt ≤ b.toInt := Int32.le_iff_toInt_le
theorem ni_eq {a b : Int32} : a = b ↔ a.toInt = b.toInt := Int32.toInt_inj.symm
theorem ni_0 : (0 : Int32).toInt = 0 := by decide
theorem ni_1 : (1 : Int32).toInt = 1 := by decide
theorem ni_m1 : (-1 : Int32).toInt = -1 := by decide
theorem ni_U : (1000000 : Int32).toInt = 1000000 := by decide
theorem ni_I : (1000000000 : Int32).toInt = 1000000000 := by decide
theorem ni_n {n : Nat} (h : n < 2 ^ 31) : (nI n).toInt = (n : Int) := nI_toInt h
theorem ni_cl {n : Nat} (h : n < 2 ^ 31) : (nI n).toNatClampNeg = n := nI_clamp h
theorem ni_nm1 {n : Nat} (h : n < 2 ^ 31) : ¬ nI n = -1 := by
  intro e
  have := congrArg Int32.toInt e
  rw [ni_n h, ni_m1] at this
  omega
def ns_t (a : Nat → Int32) : Nat → Int := fun i => (a i).toInt
def ns_n (a : Nat → Int32) : Nat → Nat := fun i => (a i).toNatClampNeg
theorem ns_t_upd (a : Nat → Int32) (k : Nat) (x : Int32) : ns_t (upd a k x) = ns_up (ns_t a) k x.toInt := by
  funext j
  show (if j = k then x else a j).toInt = if j = k then x.toInt else (a j).toInt
  split <;> rfl
theorem ns_n_upd (a : Nat → Int32) (k : Nat) (x : Int32) : ns_n (upd a k x) = ns_up (ns_n a) k x.toNatClampNeg := by
  funext j
  show (if j = k then x else a j).toNatClampNeg = if j = k then x.toNatClampNeg else (a j).toNatClampNeg
  split <;> rfl
theorem nu_s {f : Nat → Int32} {k : Nat} {x : Int32} : upd f k x k = x := if_pos rfl
theorem nu_n {f : Nat → Int32} {k j : Nat} {x : Int32} (h : j ≠ k) : upd f k x j = f j := if_neg h
/-- the parents as edges: the class's, the reference's -/
def ns_xp (hd : Nat → Nat) (aP : Nat → Int32) (v : Nat) : Option Nat :=
  if aP v = -1 then none else some (if hd (aP v).toNatClampNeg = v then 2 * (aP v).toNatClampNeg else 2 * (aP v).toNatClampNeg + 1)
theorem ns_xp_0 (hd : Nat → Nat) (aP : Nat → Int32) {k : Nat} (hk : k < 2 ^ 31) : ns_xp hd (upd aP (hd k) (nI k)) = ns_up (ns_xp hd aP) (hd k) (some (2 * k)) := by
  funext v
  unfold ns_xp
  by_cases h : v = hd k
  · rw [h, nu_s, ns_us, if_neg (ni_nm1 hk), ni_cl hk, if_pos rfl]
  · rw [nu_n h, ns_un h]
theorem ns_xp_1 (hd : Nat → Nat) (aP : Nat → Int32) {k t : Nat} (hk : k < 2 ^ 31) (ht : hd k ≠ t) : ns_xp hd (upd aP t (nI k)) = ns_up (ns_xp hd aP) t (some (2 * k + 1)) := by
  funext v
  unfold ns_xp
  by_cases h : v = t
  · rw [h, nu_s, ns_us, if_neg (ni_nm1 hk), ni_cl hk, if_neg ht]
  · rw [nu_n h, ns_un h]
def ns_yp (aP : Nat → Int32) (v : Nat) : Option Nat := if aP v < 0 then none else some (aP v).toNatClampNeg
theorem ns_yp_u (aP : Nat → Int32) {e t : Nat} (he : e < 2 ^ 31) : ns_yp (upd aP t (nI e)) = ns_up (ns_yp aP) t (some e) := by
  funext v
  unfold ns_yp
  by_cases h : v = t
  · rw [h, nu_s, ns_us, if_neg (nI_pos he), ni_cl he]
  · rw [nu_n h, ns_un h]
theorem ns_xor : ∀ e : Nat, e < 240 → nI e ^^^ 1 = nI (ns_fl e) := by decide +kernel
/-- one edge's push in the reference's array -/
theorem ns_p1_y (aC : Nat → Int32) (e : Nat) (x : Int32) (h1 : -1000000 ≤ (aC e).toInt ∧ (aC e).toInt ≤ 1000000) (h2 : -1000000 ≤ (aC (ns_fl e)).toInt ∧ (aC (ns_fl e)).toInt ≤ 1000000) (h3 : 0 ≤ x.toInt ∧ x.toInt ≤ 1000000) :
    ns_t (upd (upd aC e (aC e - x)) (ns_fl e) (upd aC e (aC e - x) (ns_fl e) + x)) = ns_p1 x.toInt e (ns_t aC) := by
  rw [nu_n (ns_fl_ne e), ns_t_upd, ns_t_upd, ni_sub (by omega) (by omega), ni_add (by omega) (by omega)]
  rfl
/-- the network as both sides hold it -/
def ns_Net (n m : Nat) (aS aT aH aC aK : Nat → Int32) : Prop :=
  2 ≤ n ∧ n ≤ 24 ∧ m ≤ 96 ∧ (∀ v, v < n → -20 ≤ (aS v).toInt ∧ (aS v).toInt ≤ 20) ∧
  (∀ k, k < m → aT k = nI (ns_n aT k) ∧ ns_n aT k < n ∧ aH k = nI (ns_n aH k) ∧ ns_n aH k < n ∧ ns_n aT k ≠ ns_n aH k) ∧
  (∀ k, k < m → 0 ≤ (aC k).toInt ∧ (aC k).toInt ≤ 20) ∧ (∀ k, k < m → -50 ≤ (aK k).toInt ∧ (aK k).toInt ≤ 50)
end
section
/-! 08: the reference's edge arrays, a pair at a time -/
def ns_pr (F T C K : Nat → Int32) (j s t : Nat) (k l : Int) : Prop :=
  F (2 * j) = nI s ∧ T (2 * j) = nI t ∧ (C (2 * j)).toInt = k ∧ (K (2 * j)).toInt = l ∧
  F (2 * j + 1) = nI t ∧ T (2 * j + 1) = nI s ∧ (C (2 * j + 1)).toInt = 0 ∧ (K (2 * j + 1)).toInt = - l
theorem ns_pr_k {F T C K F' T' C' K' : Nat → Int32} {j i s t : Nat} {k l : Int} (h : ns_pr F T C K j s t k l) (hj : j < i)
    (hF : ∀ e, e < 2 * i → F' e = F e) (hT : ∀ e, e < 2 * i → T' e = T e) (hC : ∀ e, e < 2 * i → C' e = C e) (hK : ∀ e, e < 2 * i → K' e = K e) : ns_pr F' T' C' K' j s t k l := by
  unfold ns_pr at h ⊢
  rw [hF _ (by omega), hF _ (by omega), hT _ (by omega), hT _ (by omega), hC _ (by omega), hC _ (by omega), hK _ (by omega), hK _ (by omega)]
  exact h
/-- two writes at a pair -/
def ns_u2 (f : Nat → Int32) (j : Nat) (x y : Int32) : Nat → Int32 := upd (upd f (2 * j) x) (2 * j + 1) y
theorem ns_u2_0 (f : Nat → Int32) (j : Nat) (x y : Int32) : ns_u2 f j x y (2 * j) = x := by
  unfold ns_u2; rw [nu_n (by omega), nu_s]
theorem ns_u2_1 (f : Nat → Int32) (j : Nat) (x y : Int32) : ns_u2 f j x y (2 * j + 1) = y := by
  unfold ns_u2; rw [nu_s]
theorem ns_u2_k (f : Nat → Int32) (j : Nat) (x y : Int32) : ∀ e, e < 2 * j → ns_u2 f j x y e = f e := by
  intro e he
  unfold ns_u2; rw [nu_n (by omega), nu_n (by omega)]
theorem ns_pr_n (F T C K : Nat → Int32) (j s t : Nat) (x y : Int32) (hy : -50 ≤ y.toInt ∧ y.toInt ≤ 50) :
    ns_pr (ns_u2 F j (nI s) (nI t)) (ns_u2 T j (nI t) (nI s)) (ns_u2 C j x 0) (ns_u2 K j y (-y)) j s t x.toInt y.toInt := by
  unfold ns_pr
  simp only [ns_u2_0, ns_u2_1]
  exact ⟨trivial, trivial, trivial, trivial, trivial, trivial, ni_0, ni_neg (by omega) (by omega)⟩
/-- the arcs' pairs below i, the nodes' pairs below v -/
def ns_ya (tl hd : Nat → Nat) (c cap : Nat → Int) (F T C K : Nat → Int32) (i : Nat) : Prop := ∀ a, a < i →
  (c a < 0 → ns_pr F T C K a (hd a) (tl a) (cap a) (- c a)) ∧ (¬ c a < 0 → ns_pr F T C K a (tl a) (hd a) (cap a) (c a))
def ns_yn (n m : Nat) (adj : Nat → Int) (F T C K : Nat → Int32) (i : Nat) : Prop := ∀ v, v < i →
  (0 < adj v → ns_pr F T C K (m + ns_cnt adj v) n v (adj v) 0) ∧ (adj v < 0 → ns_pr F T C K (m + ns_cnt adj v) v (n + 1) (- adj v) 0)
theorem ns_ya_k {tl hd : Nat → Nat} {c cap : Nat → Int} {F T C K F' T' C' K' : Nat → Int32} {i j : Nat} (h : ns_ya tl hd c cap F T C K i) (hj : i ≤ j)
    (hF : ∀ e, e < 2 * j → F' e = F e) (hT : ∀ e, e < 2 * j → T' e = T e) (hC : ∀ e, e < 2 * j → C' e = C e) (hK : ∀ e, e < 2 * j → K' e = K e) : ns_ya tl hd c cap F' T' C' K' i := by
  intro a ha
  exact ⟨fun k => ns_pr_k ((h a ha).1 k) (by omega) hF hT hC hK, fun k => ns_pr_k ((h a ha).2 k) (by omega) hF hT hC hK⟩
theorem ns_yn_k {n m : Nat} {adj : Nat → Int} {F T C K F' T' C' K' : Nat → Int32} {i : Nat} (h : ns_yn n m adj F T C K i)
    (hF : ∀ e, e < 2 * (m + ns_cnt adj i) → F' e = F e) (hT : ∀ e, e < 2 * (m + ns_cnt adj i) → T' e = T e) (hC : ∀ e, e < 2 * (m + ns_cnt adj i) → C' e = C e) (hK : ∀ e, e < 2 * (m + ns_cnt adj i) → K' e = K e) :
    ns_yn n m adj F' T' C' K' i := by
  intro v hv
  refine ⟨fun k => ns_pr_k ((h v hv).1 k) ?_ hF hT hC hK, fun k => ns_pr_k ((h v hv).2 k) ?_ hF hT hC hK⟩
  · have := ns_cnt_lt hv (show adj v ≠ 0 by omega); omega
  · have := ns_cnt_lt hv (show adj v ≠ 0 by omega); omega
theorem ns_ya_s {tl hd : Nat → Nat} {c cap : Nat → Int} {F T C K : Nat → Int32} {i s t : Nat} {x y : Int32} (h : ns_ya tl hd c cap F T C K i) (hy : -50 ≤ y.toInt ∧ y.toInt ≤ 50) (hx : x.toInt = cap i)
    (h1 : c i < 0 → s = hd i ∧ t = tl i ∧ y.toInt = - c i) (h2 : ¬ c i < 0 → s = tl i ∧ t = hd i ∧ y.toInt = c i) :
    ns_ya tl hd c cap (ns_u2 F i (nI s) (nI t)) (ns_u2 T i (nI t) (nI s)) (ns_u2 C i x 0) (ns_u2 K i y (-y)) (i + 1) := by
  intro a ha
  by_cases k : a = i
  · have p := ns_pr_n F T C K i s t x y hy
    rw [hx] at p
    rw [k]
    refine ⟨fun q => ?_, fun q => ?_⟩
    · obtain ⟨b1, b2, b3⟩ := h1 q
      rw [b3] at p
      rw [b1, b2] at p ⊢
      exact p
    · obtain ⟨b1, b2, b3⟩ := h2 q
      rw [b3] at p
      rw [b1, b2] at p ⊢
      exact p
  · exact ns_ya_k h (Nat.le_refl _) (ns_u2_k _ _ _ _) (ns_u2_k _ _ _ _) (ns_u2_k _ _ _ _) (ns_u2_k _ _ _ _) a (by omega)
theorem ns_yn_s {n m : Nat} {adj : Nat → Int} {F T C K : Nat → Int32} {i s t : Nat} {x : Int32} (h : ns_yn n m adj F T C K i) (hz : adj i ≠ 0)
    (h1 : 0 < adj i → s = n ∧ t = i ∧ x.toInt = adj i) (h2 : adj i < 0 → s = i ∧ t = n + 1 ∧ x.toInt = - adj i) :
    ns_yn n m adj (ns_u2 F (m + ns_cnt adj i) (nI s) (nI t)) (ns_u2 T (m + ns_cnt adj i) (nI t) (nI s)) (ns_u2 C (m + ns_cnt adj i) x 0) (ns_u2 K (m + ns_cnt adj i) 0 (-0)) (i + 1) := by
  intro a ha
  by_cases k : a = i
  · have p := ns_pr_n F T C K (m + ns_cnt adj i) s t x 0 (by rw [ni_0]; omega)
    rw [ni_0] at p
    rw [k]
    refine ⟨fun q => ?_, fun q => ?_⟩
    · obtain ⟨b1, b2, b3⟩ := h1 q
      rw [b3] at p
      rw [b1, b2] at p ⊢
      exact p
    · obtain ⟨b1, b2, b3⟩ := h2 q
      rw [b3] at p
      rw [b1, b2] at p ⊢
      exact p
  · exact ns_yn_k h (ns_u2_k _ _ _ _) (ns_u2_k _ _ _ _) (ns_u2_k _ _ _ _) (ns_u2_k _ _ _ _) a (by omega)
theorem ns_yn_z {n m : Nat} {adj : Nat → Int} {F T C K : Nat → Int32} {i : Nat} (h : ns_yn n m adj F T C K i) (hz : adj i = 0) : ns_yn n m adj F T C K (i + 1) := by
  intro a ha
  by_cases k : a = i
  · rw [k]; exact ⟨fun q => by omega, fun q => by omega⟩
  · exact h a (by omega)
/-- all laid: each edge's place is a node, and the network begins -/
theorem ns_y_all {n m : Nat} {tl hd : Nat → Nat} {c cap adj : Nat → Int} {F T C K : Nat → Int32} (hn : n ≤ 24) (hr : ∀ a, a < m → hd a < n ∧ tl a < n)
    (h1 : ns_ya tl hd c cap F T C K m) (h2 : ns_yn n m adj F T C K n) (hcap : ∀ a, a < m → 0 ≤ cap a) :
    (∀ e, e < 2 * (m + ns_cnt adj n) → F e = nI (ns_n F e) ∧ T e = nI (ns_n T e)) ∧ ns_YE n m tl hd c adj (ns_n F) (ns_n T) (ns_t K) ∧
    ns_YI n m cap adj (ns_n F) (ns_n T) (ns_t K) (ns_t C) 0 0 := by
  have cv : ∀ (f : Nat → Int32) (e s : Nat), s < n + 2 → f e = nI s → ns_n f e = s := by
    intro f e s hs he
    show (f e).toNatClampNeg = s
    rw [he, ni_cl (by omega)]
  have all : ∀ j, j < m + ns_cnt adj n → ∃ s t k l, s < n + 2 ∧ t < n + 2 ∧ ns_pr F T C K j s t k l := by
    intro j hj
    rcases ns_cnt_in n j hj with q | ⟨u, hu, hz, q⟩
    · have a1 := hr j q
      by_cases w : c j < 0
      · exact ⟨_, _, _, _, by omega, by omega, (h1 j q).1 w⟩
      · exact ⟨_, _, _, _, by omega, by omega, (h1 j q).2 w⟩
    · rw [q]
      by_cases w : 0 < adj u
      · exact ⟨_, _, _, _, by omega, by omega, (h2 u hu).1 w⟩
      · exact ⟨_, _, _, _, by omega, by omega, (h2 u hu).2 (by omega)⟩
  have hY : ns_YE n m tl hd c adj (ns_n F) (ns_n T) (ns_t K) := by
    refine ⟨fun a ha => ⟨fun q => ?_, fun q => ?_⟩, fun v hv => ⟨fun q => ?_, fun q => ?_⟩, fun j hj => ?_⟩
    · have a1 := hr a ha
      obtain ⟨p1, p2, p3, p4, _⟩ := (h1 a ha).1 q
      exact ⟨cv _ _ _ (by omega) p1, cv _ _ _ (by omega) p2, p4⟩
    · have a1 := hr a ha
      obtain ⟨p1, p2, p3, p4, _⟩ := (h1 a ha).2 q
      exact ⟨cv _ _ _ (by omega) p1, cv _ _ _ (by omega) p2, p4⟩
    · obtain ⟨p1, p2, p3, p4, _⟩ := (h2 v hv).1 q
      exact ⟨cv _ _ _ (by omega) p1, cv _ _ _ (by omega) p2, p4⟩
    · obtain ⟨p1, p2, p3, p4, _⟩ := (h2 v hv).2 q
      exact ⟨cv _ _ _ (by omega) p1, cv _ _ _ (by omega) p2, p4⟩
    · obtain ⟨s, t, k, l, hs, ht, p1, p2, p3, p4, p5, p6, p7, p8⟩ := all j hj
      rw [cv _ _ _ hs p1, cv _ _ _ ht p2, cv _ _ _ ht p5, cv _ _ _ hs p6]
      refine ⟨rfl, rfl, ?_⟩
      show (K (2 * j + 1)).toInt = - (K (2 * j)).toInt
      rw [p8, p4]
  refine ⟨fun e he => ?_, hY, ns_YI_0 hY hcap (fun a ha => ?_) (fun v hv => ⟨fun q => ?_, fun q => ?_⟩) (fun j hj => ?_)⟩
  · rcases ns_ev e with ⟨j, e1, _⟩ | ⟨j, e1, _⟩
    · obtain ⟨s, t, k, l, hs, ht, p1, p2, p3, p4, p5, p6, p7, p8⟩ := all j (by omega)
      rw [e1, cv _ _ _ hs p1, cv _ _ _ ht p2]
      exact ⟨p1, p2⟩
    · obtain ⟨s, t, k, l, hs, ht, p1, p2, p3, p4, p5, p6, p7, p8⟩ := all j (by omega)
      rw [e1, cv _ _ _ ht p5, cv _ _ _ hs p6]
      exact ⟨p5, p6⟩
  · by_cases q : c a < 0
    · exact ((h1 a ha).1 q).2.2.1
    · exact ((h1 a ha).2 q).2.2.1
  · exact ((h2 v hv).1 q).2.2.1
  · exact ((h2 v hv).2 q).2.2.1
  · obtain ⟨s, t, k, l, hs, ht, p1, p2, p3, p4, p5, p6, p7, p8⟩ := all j hj
    exact p7
end
section
/-! 09: the class's arrays, a step at a time -/
theorem nx_r {n m : Nat} {aS aT aH aC aK : Nat → Int32} (h : ns_Net n m aS aT aH aC aK) : ∀ a, a < m → ns_n aH a < n ∧ ns_n aT a < n :=
  fun a ha => ⟨(h.2.2.2.2.1 a ha).2.2.2.1, (h.2.2.2.2.1 a ha).2.1⟩
theorem nx_G {n m : Nat} {aS aT aH aC aK : Nat → Int32} (h : ns_Net n m aS aT aH aC aK) : ns_G n m (ns_xf (ns_n aT) (ns_n aH)) (ns_xf (ns_n aH) (ns_n aT)) (ns_xl (ns_t aK)) :=
  ns_x_G (nx_r h) (fun a ha => (h.2.2.2.2.1 a ha).2.2.2.2) (fun a ha => h.2.2.2.2.2.2 a ha)
theorem nx_e0 {n m : Nat} {aS aT aH aC aK aF aD aP : Nat → Int32} {π : Nat → Int} {src : Nat → Bool} {hi : Int} {l : List Nat} {w : Nat} {c : Int} {k : Nat} {ch : Bool}
    (hN : ns_Net n m aS aT aH aC aK) (hk : k < m) (hU : hi + 50 * ((2 * k : Nat) : Int) + 50 < 1000000) (h0 : 0 ≤ hi) (hP : ns_Pot m (ns_xf (ns_n aT) (ns_n aH)) (ns_xf (ns_n aH) (ns_n aT)) (ns_xl (ns_t aK)) (ns_xr (ns_t aC) (ns_t aF)) π)
    (hJ : ns_J n m (ns_xf (ns_n aT) (ns_n aH)) (ns_xf (ns_n aH) (ns_n aT)) (ns_xl (ns_t aK)) (ns_xr (ns_t aC) (ns_t aF)) π 1000000 src hi l w c (2 * k) ch (ns_t aD) (ns_xp (ns_n aH) aP)) :
    (¬ aF k < aC k → ns_J n m (ns_xf (ns_n aT) (ns_n aH)) (ns_xf (ns_n aH) (ns_n aT)) (ns_xl (ns_t aK)) (ns_xr (ns_t aC) (ns_t aF)) π 1000000 src hi l w c (2 * k + 1) ch (ns_t aD) (ns_xp (ns_n aH) aP)) ∧
    (aF k < aC k → (aD (ns_n aT k) = 1000000 ∨ aD (ns_n aH k) ≤ aD (ns_n aT k) + aK k → ns_J n m (ns_xf (ns_n aT) (ns_n aH)) (ns_xf (ns_n aH) (ns_n aT)) (ns_xl (ns_t aK)) (ns_xr (ns_t aC) (ns_t aF)) π 1000000 src hi l w c (2 * k + 1) ch (ns_t aD) (ns_xp (ns_n aH) aP)) ∧
      (¬ aD (ns_n aT k) = 1000000 → ¬ aD (ns_n aH k) ≤ aD (ns_n aT k) + aK k →
        ns_J n m (ns_xf (ns_n aT) (ns_n aH)) (ns_xf (ns_n aH) (ns_n aT)) (ns_xl (ns_t aK)) (ns_xr (ns_t aC) (ns_t aF)) π 1000000 src hi l w c (2 * k + 1) true (ns_t (upd aD (ns_n aH k) (aD (ns_n aT k) + aK k))) (ns_xp (ns_n aH) (upd aP (ns_n aH k) (nI k))))) := by
  have hG := nx_G hN
  have hK := hN.2.2.2.2.2.2 k hk
  have hm := hN.2.2.1
  have hb := hJ.1.1 (ns_n aT k) (nx_r hN k hk).2
  have hb : -(hi + 50 * ((2 * k : Nat) : Int)) ≤ (aD (ns_n aT k)).toInt ∧ ((aD (ns_n aT k)).toInt = 1000000 ∨ (aD (ns_n aT k)).toInt ≤ hi + 50 * ((2 * k : Nat) : Int)) := hb
  have hs : (aD (ns_n aT k) + aK k).toInt = (aD (ns_n aT k)).toInt + (aK k).toInt := ni_add (by omega) (by omega)
  have er : ns_xr (ns_t aC) (ns_t aF) (2 * k) = (aC k).toInt - (aF k).toInt := ns_xr_0 _ _ _
  have ef : ns_xf (ns_n aT) (ns_n aH) (2 * k) = ns_n aT k := ns_xf_0 _ _ _
  have et : ns_xf (ns_n aH) (ns_n aT) (2 * k) = ns_n aH k := ns_xf_0 _ _ _
  have el : ns_xl (ns_t aK) (2 * k) = (aK k).toInt := ns_xl_0 _ _
  refine ⟨fun q => ns_J_no hJ (fun z => ?_), fun q => ⟨fun z => ns_J_no hJ (fun _ => ?_), fun z1 z2 => ?_⟩⟩
  · rw [er] at z
    rw [ni_lt] at q
    omega
  · rw [ef, et, el]
    rw [ni_eq, ni_le, hs, ni_U] at z
    exact z
  · rw [ni_lt] at q
    rw [ni_eq, ni_U] at z1
    rw [ni_le, hs] at z2
    have j := ns_J_upd hG hP hJ hU (by omega) (by rw [er]; omega) (by rw [ef]; exact z1) (by rw [ef, et, el]; show (aD (ns_n aT k)).toInt + (aK k).toInt < (aD (ns_n aH k)).toInt; omega)
    rw [ef, et, el] at j
    rw [ns_t_upd, ns_xp_0 _ _ (by omega), hs]
    exact j
theorem nx_e1 {n m : Nat} {aS aT aH aC aK aF aD aP : Nat → Int32} {π : Nat → Int} {src : Nat → Bool} {hi : Int} {l : List Nat} {w : Nat} {c : Int} {k : Nat} {ch : Bool}
    (hN : ns_Net n m aS aT aH aC aK) (hk : k < m) (hU : hi + 50 * ((2 * k + 1 : Nat) : Int) + 50 < 1000000) (h0 : 0 ≤ hi) (hP : ns_Pot m (ns_xf (ns_n aT) (ns_n aH)) (ns_xf (ns_n aH) (ns_n aT)) (ns_xl (ns_t aK)) (ns_xr (ns_t aC) (ns_t aF)) π)
    (hJ : ns_J n m (ns_xf (ns_n aT) (ns_n aH)) (ns_xf (ns_n aH) (ns_n aT)) (ns_xl (ns_t aK)) (ns_xr (ns_t aC) (ns_t aF)) π 1000000 src hi l w c (2 * k + 1) ch (ns_t aD) (ns_xp (ns_n aH) aP)) :
    (aF k ≤ 0 → ns_J n m (ns_xf (ns_n aT) (ns_n aH)) (ns_xf (ns_n aH) (ns_n aT)) (ns_xl (ns_t aK)) (ns_xr (ns_t aC) (ns_t aF)) π 1000000 src hi l w c (2 * (k + 1)) ch (ns_t aD) (ns_xp (ns_n aH) aP)) ∧
    (¬ aF k ≤ 0 → (aD (ns_n aH k) = 1000000 ∨ aD (ns_n aT k) ≤ aD (ns_n aH k) + -(aK k) → ns_J n m (ns_xf (ns_n aT) (ns_n aH)) (ns_xf (ns_n aH) (ns_n aT)) (ns_xl (ns_t aK)) (ns_xr (ns_t aC) (ns_t aF)) π 1000000 src hi l w c (2 * (k + 1)) ch (ns_t aD) (ns_xp (ns_n aH) aP)) ∧
      (¬ aD (ns_n aH k) = 1000000 → ¬ aD (ns_n aT k) ≤ aD (ns_n aH k) + -(aK k) →
        ns_J n m (ns_xf (ns_n aT) (ns_n aH)) (ns_xf (ns_n aH) (ns_n aT)) (ns_xl (ns_t aK)) (ns_xr (ns_t aC) (ns_t aF)) π 1000000 src hi l w c (2 * (k + 1)) true (ns_t (upd aD (ns_n aT k) (aD (ns_n aH k) + -(aK k)))) (ns_xp (ns_n aH) (upd aP (ns_n aT k) (nI k))))) := by
  have hG := nx_G hN
  have hK := hN.2.2.2.2.2.2 k hk
  have hm := hN.2.2.1
  have hb := hJ.1.1 (ns_n aH k) (nx_r hN k hk).1
  have hb : -(hi + 50 * ((2 * k + 1 : Nat) : Int)) ≤ (aD (ns_n aH k)).toInt ∧ ((aD (ns_n aH k)).toInt = 1000000 ∨ (aD (ns_n aH k)).toInt ≤ hi + 50 * ((2 * k + 1 : Nat) : Int)) := hb
  have hg : (-(aK k)).toInt = -(aK k).toInt := ni_neg (by omega) (by omega)
  have hs : (aD (ns_n aH k) + -(aK k)).toInt = (aD (ns_n aH k)).toInt + -(aK k).toInt := by rw [ni_add (by rw [hg]; omega) (by rw [hg]; omega), hg]
  have er : ns_xr (ns_t aC) (ns_t aF) (2 * k + 1) = (aF k).toInt := ns_xr_1 _ _ _
  have ef : ns_xf (ns_n aT) (ns_n aH) (2 * k + 1) = ns_n aH k := ns_xf_1 _ _ _
  have et : ns_xf (ns_n aH) (ns_n aT) (2 * k + 1) = ns_n aT k := ns_xf_1 _ _ _
  have el : ns_xl (ns_t aK) (2 * k + 1) = -(aK k).toInt := ns_xl_1 _ _
  have e2 : 2 * (k + 1) = 2 * k + 1 + 1 := by omega
  rw [e2]
  refine ⟨fun q => ns_J_no hJ (fun z => ?_), fun q => ⟨fun z => ns_J_no hJ (fun _ => ?_), fun z1 z2 => ?_⟩⟩
  · rw [er] at z
    rw [ni_le, ni_0] at q
    omega
  · rw [ef, et, el]
    rw [ni_eq, ni_le, hs, ni_U] at z
    exact z
  · rw [ni_le, ni_0] at q
    rw [ni_eq, ni_U] at z1
    rw [ni_le, hs] at z2
    have j := ns_J_upd hG hP hJ hU (by omega) (by rw [er]; omega) (by rw [ef]; exact z1) (by rw [ef, et, el]; show (aD (ns_n aH k)).toInt + -(aK k).toInt < (aD (ns_n aT k)).toInt; omega)
    rw [ef, et, el] at j
    rw [ns_t_upd, ns_xp_1 (ns_n aH) aP (by omega) (fun z => (hN.2.2.2.2.1 k hk).2.2.2.2 z.symm), hs]
    exact j
/-- the parent of a node that has one: its arc, and how the class reads it -/
theorem nx_par {n m : Nat} {aS aT aH aC aK aP : Nat → Int32} {rc d : Nat → Int} {U hi : Int} {src : Nat → Bool} {v e : Nat} (hN : ns_Net n m aS aT aH aC aK)
    (hB : ns_B n m (ns_xf (ns_n aT) (ns_n aH)) (ns_xf (ns_n aH) (ns_n aT)) (ns_xl (ns_t aK)) rc U src hi d (ns_xp (ns_n aH) aP)) (hv : v < n) (hp : ns_xp (ns_n aH) aP v = some e) (hin : ∀ u, u < n → aP u = -1 ∨ ∃ k, k < m ∧ aP u = nI k) :
    ∃ k, k < m ∧ aP v = nI k ∧ ((ns_n aH k = v ∧ e = 2 * k ∧ (ns_xf (ns_n aT) (ns_n aH)) e = ns_n aT k) ∨ (ns_n aH k ≠ v ∧ e = 2 * k + 1 ∧ (ns_xf (ns_n aT) (ns_n aH)) e = ns_n aH k)) := by
  have hm := hN.2.2.1
  rcases hin v hv with q | ⟨k, hk, q⟩
  · unfold ns_xp at hp
    rw [if_pos q] at hp
    cases hp
  · refine ⟨k, hk, q, ?_⟩
    unfold ns_xp at hp
    rw [q, if_neg (ni_nm1 (by omega)), ni_cl (by omega)] at hp
    by_cases z : ns_n aH k = v
    · rw [if_pos z] at hp
      left
      have he : 2 * k = e := Option.some.inj hp
      exact ⟨z, he.symm, by rw [← he, ns_xf_0]⟩
    · rw [if_neg z] at hp
      right
      have he : 2 * k + 1 = e := Option.some.inj hp
      exact ⟨z, he.symm, by rw [← he, ns_xf_1]⟩
theorem nx_none {aH aP : Nat → Int32} {v : Nat} (h : ns_xp (ns_n aH) aP v = none) : aP v = -1 := by
  unfold ns_xp at h
  by_cases q : aP v = -1
  · exact q
  · rw [if_neg q] at h; cases h
theorem nx_some {aH aP : Nat → Int32} {v e : Nat} (h : ns_xp (ns_n aH) aP v = some e) : ¬ aP v = -1 := by
  intro q
  unfold ns_xp at h
  rw [if_pos q] at h
  cases h
end
section
/-! 10: the reference's arrays, a step at a time -/
theorem ny_e {V H : Nat} {F T C K D P : Nat → Int32} {π : Nat → Int} {src : Nat → Bool} {hi : Int} {l : List Nat} {w : Nat} {c : Int} {e : Nat} {ch : Bool}
    (hG : ns_G V H (ns_n F) (ns_n T) (ns_t K)) (he : e < 2 * H) (hH : H ≤ 120) (hU : hi + 50 * (e : Int) + 50 < 1000000000) (h0 : 0 ≤ hi) (hP : ns_Pot H (ns_n F) (ns_n T) (ns_t K) (ns_t C) π)
    (hJ : ns_J V H (ns_n F) (ns_n T) (ns_t K) (ns_t C) π 1000000000 src hi l w c e ch (ns_t D) (ns_yp P)) :
    (C e ≤ 0 ∨ D (ns_n F e) = 1000000000 ∨ D (ns_n T e) ≤ D (ns_n F e) + K e → ns_J V H (ns_n F) (ns_n T) (ns_t K) (ns_t C) π 1000000000 src hi l w c (e + 1) ch (ns_t D) (ns_yp P)) ∧
    (¬ C e ≤ 0 → ¬ D (ns_n F e) = 1000000000 → ¬ D (ns_n T e) ≤ D (ns_n F e) + K e →
      ns_J V H (ns_n F) (ns_n T) (ns_t K) (ns_t C) π 1000000000 src hi l w c (e + 1) true (ns_t (upd D (ns_n T e) (D (ns_n F e) + K e))) (ns_yp (upd P (ns_n T e) (nI e)))) := by
  obtain ⟨g1, g2, g3, g4, g5, g6, g7, g8⟩ := hG e he
  have g7 : -50 ≤ (K e).toInt := g7
  have g8 : (K e).toInt ≤ 50 := g8
  have hb := hJ.1.1 (ns_n F e) g1
  have hb : -(hi + 50 * (e : Int)) ≤ (D (ns_n F e)).toInt ∧ ((D (ns_n F e)).toInt = 1000000000 ∨ (D (ns_n F e)).toInt ≤ hi + 50 * (e : Int)) := hb
  have hs : (D (ns_n F e) + K e).toInt = (D (ns_n F e)).toInt + (K e).toInt := ni_add (by omega) (by omega)
  refine ⟨fun z => ns_J_no hJ (fun q => ?_), fun z0 z1 z2 => ?_⟩
  · have q : 0 < (C e).toInt := q
    rw [ni_le, ni_0, ni_eq, ni_le, hs, ni_I] at z
    show (D (ns_n F e)).toInt = 1000000000 ∨ (D (ns_n T e)).toInt ≤ (D (ns_n F e)).toInt + (K e).toInt
    omega
  · rw [ni_le, ni_0] at z0
    rw [ni_eq, ni_I] at z1
    rw [ni_le, hs] at z2
    have j := ns_J_upd hG hP hJ hU he (by show 0 < (C e).toInt; omega) z1 (by show (D (ns_n F e)).toInt + (K e).toInt < (D (ns_n T e)).toInt; omega)
    rw [ns_t_upd, ns_yp_u P (by omega), hs]
    exact j
theorem ny_some {P : Nat → Int32} {v e : Nat} (h : ns_yp P v = some e) : ¬ P v < 0 ∧ P v = nI e := by
  unfold ns_yp at h
  by_cases q : P v < 0
  · rw [if_pos q] at h; cases h
  · rw [if_neg q] at h
    obtain ⟨j, hj, e1⟩ := nI_of q
    rw [e1, ni_cl hj] at h
    have : j = e := Option.some.inj h
    rw [this] at e1
    exact ⟨q, e1⟩
end
section
/-! 11: what a solve answers, for either side, and that it is one answer -/
def ns_Spec (n m : Nat) (aS aT aH aC aK : Nat → Int32) (r st tc sf : Int32) (W : Nat → Int32) : Prop :=
  (¬ ns_sm (ns_t aS) n = 0 ∧ r = 3 ∧ st = 3 ∧ tc = 0 ∧ sf = 0 ∧ ∀ v, v < n → W v = 0) ∨
  (ns_sm (ns_t aS) n = 0 ∧ ∃ x : Nat → Int, ns_Fin n m (ns_n aT) (ns_n aH) (ns_t aS) (ns_t aK) (ns_t aC) x ∧
    sf.toInt = ns_P (fun v => ns_exc (ns_t aS) (ns_n aT) (ns_n aH) x m v) n ∧
    ((0 < sf.toInt ∧ r = 2 ∧ st = 2 ∧ tc = 0 ∧ (∀ v, v < n → W v = 0 ∨ W v = 1) ∧ ns_Wit n m (ns_n aT) (ns_n aH) (ns_t aS) (ns_t aC) x (fun v => decide (W v = 1))) ∨
     (sf.toInt ≤ 0 ∧ r = 1 ∧ st = 1 ∧ tc.toInt = ns_sm (fun a => ns_t aK a * x a) m ∧ ∀ v, v < n → W v = 0)))
theorem ns_Spec_u {n m : Nat} {aS aT aH aC aK : Nat → Int32} {r st tc sf r' st' tc' sf' : Int32} {W W' : Nat → Int32} (hr : ∀ a, a < m → ns_n aH a < n ∧ ns_n aT a < n)
    (h : ns_Spec n m aS aT aH aC aK r st tc sf W) (h' : ns_Spec n m aS aT aH aC aK r' st' tc' sf' W') : r' = r ∧ st' = st ∧ tc' = tc ∧ sf' = sf ∧ ∀ v, v < n → W' v = W v := by
  rcases h with ⟨z, a1, a2, a3, a4, a5⟩ | ⟨z, x, f, s, h⟩
  · rcases h' with ⟨z', b1, b2, b3, b4, b5⟩ | ⟨z', _⟩
    · exact ⟨b1.trans a1.symm, b2.trans a2.symm, b3.trans a3.symm, b4.trans a4.symm, fun v hv => (b5 v hv).trans (a5 v hv).symm⟩
    · exact absurd z' z
  · rcases h' with ⟨z', _⟩ | ⟨z', y, g, s', h'⟩
    · exact absurd z z'
    · obtain ⟨e1, e2, e3⟩ := ns_same hr z f g
      have es : sf' = sf := ni_eq.mpr (by omega)
      rcases h with ⟨p, a1, a2, a3, a4, a5⟩ | ⟨p, a1, a2, a3, a4⟩
      · rcases h' with ⟨p', b1, b2, b3, b4, b5⟩ | ⟨p', b1, b2, b3, b4⟩
        · refine ⟨b1.trans a1.symm, b2.trans a2.symm, b3.trans a3.symm, es, fun v hv => ?_⟩
          have q : decide (W v = 1) = decide (W' v = 1) := e3 _ _ a5 b5 v hv
          rcases a4 v hv with k | k <;> rcases b4 v hv with k' | k' <;> rw [k, k'] at q ⊢
          · exact absurd q (by decide)
          · exact absurd q (by decide)
        · rw [es] at p'; omega
      · rcases h' with ⟨p', b1, b2, b3, b4, b5⟩ | ⟨p', b1, b2, b3, b4⟩
        · rw [es] at p'; omega
        · refine ⟨b1.trans a1.symm, b2.trans a2.symm, ni_eq.mpr ?_, es, fun v hv => (b4 v hv).trans (a4 v hv).symm⟩
          rw [b3, a3]
          exact (e2 (by omega)).symm
end
section
/-! 12: bounds, so that no machine integer runs over -/
theorem ns_sm_bd {f : Nat → Int} {B : Int} : ∀ n : Nat, (∀ i, i < n → -B ≤ f i ∧ f i ≤ B) → -(B * n) ≤ ns_sm f n ∧ ns_sm f n ≤ B * n := by
  intro n
  induction n with
  | zero =>
    intro _
    rw [ns_sm_0]
    have : B * ((0 : Nat) : Int) = 0 := Int.mul_zero B
    omega
  | succ n ih =>
    intro h
    have a := ih (fun i hi => h i (by omega))
    have b := h n (by omega)
    have e : B * ((n + 1 : Nat) : Int) = B * (n : Int) + B := by
      rw [Int.natCast_succ, Int.mul_add, Int.mul_one]
    rw [ns_sm_s, e]
    omega
theorem ns_ind_01 (a b : Nat) : ns_ind a b = 0 ∨ ns_ind a b = 1 := by unfold ns_ind; split <;> simp
theorem ns_term {x B : Int} (h : -B ≤ x ∧ x ≤ B) (a b v : Nat) : -B ≤ x * (ns_ind a v - ns_ind b v) ∧ x * (ns_ind a v - ns_ind b v) ≤ B := by
  rcases ns_ind_01 a v with p | p <;> rcases ns_ind_01 b v with q | q <;> rw [p, q] <;> omega
theorem ns_exc_bd {b x : Nat → Int} {tl hd : Nat → Nat} {m v : Nat} (hb : -20 ≤ b v ∧ b v ≤ 20) (hx : ∀ a, a < m → -20 ≤ x a ∧ x a ≤ 20) : -(20 + 20 * (m : Int)) ≤ ns_exc b tl hd x m v ∧ ns_exc b tl hd x m v ≤ 20 + 20 * (m : Int) := by
  have a := ns_sm_bd (f := fun a => x a * (ns_ind (hd a) v - ns_ind (tl a) v)) (B := 20) m (fun a ha => ns_term (hx a ha) (hd a) (tl a) v)
  unfold ns_exc
  omega
theorem ns_exc_s (b x : Nat → Int) (tl hd : Nat → Nat) (k v : Nat) : ns_exc b tl hd x (k + 1) v = ns_exc b tl hd x k v + x k * (ns_ind (hd k) v - ns_ind (tl k) v) := by
  unfold ns_exc
  rw [ns_sm_s]
  omega
theorem ns_exc_0 (b x : Nat → Int) (tl hd : Nat → Nat) (v : Nat) : ns_exc b tl hd x 0 v = b v := by
  unfold ns_exc
  rw [ns_sm_0]
  omega
theorem ns_exc_c {b x y : Nat → Int} {tl hd : Nat → Nat} {m : Nat} (h : ∀ a, a < m → x a = y a) (v : Nat) : ns_exc b tl hd x m v = ns_exc b tl hd y m v := by
  unfold ns_exc
  rw [ns_sm_c (f := fun a => x a * (ns_ind (hd a) v - ns_ind (tl a) v)) (g := fun a => y a * (ns_ind (hd a) v - ns_ind (tl a) v)) m (fun a ha => by rw [h a ha])]
theorem ns_P_c {e f : Nat → Int} {n : Nat} (h : ∀ v, v < n → e v = f v) : ns_P e n = ns_P f n := ns_sm_c n (fun v hv => by show ns_ps (e v) = ns_ps (f v); rw [h v hv])
theorem ns_P_bd {b x : Nat → Int} {tl hd : Nat → Nat} {n : Nat} (hb : ∀ v, v < n → -20 ≤ b v ∧ b v ≤ 20) :
    ∀ m : Nat, (∀ a, a < m → hd a < n) → (∀ a, a < m → 0 ≤ x a ∧ x a ≤ 20) → ns_P (fun v => ns_exc b tl hd x m v) n ≤ 20 * (n : Int) + 20 * (m : Int) := by
  intro m
  induction m with
  | zero =>
    intro _ _
    have a := (ns_sm_bd (f := fun v => ns_ps (ns_exc b tl hd x 0 v)) (B := 20) n (fun v hv => by
      show -20 ≤ ns_ps (ns_exc b tl hd x 0 v) ∧ ns_ps (ns_exc b tl hd x 0 v) ≤ 20
      rw [ns_exc_0]
      have := hb v hv
      unfold ns_ps
      split <;> omega)).2
    show ns_sm (fun v => ns_ps (ns_exc b tl hd x 0 v)) n ≤ _
    omega
  | succ m ih =>
    intro hh hx
    have a := ih (fun a ha => hh a (by omega)) (fun a ha => hx a (by omega))
    have q := hx m (by omega)
    have p := ns_P_up (e := fun v => ns_exc b tl hd x m v) (e' := fun v => ns_exc b tl hd x (m + 1) v) q.1 (hd m) (tl m) (hh m (by omega)) (fun v _ => ns_exc_s b x tl hd m v)
    omega
theorem ns_y0_bd {c cap : Nat → Int} {a : Nat} (h : 0 ≤ cap a ∧ cap a ≤ 20) : 0 ≤ ns_y0 c cap a ∧ ns_y0 c cap a ≤ 20 := by
  unfold ns_y0
  split <;> omega
theorem ns_cx_bd {c x : Int} (hc : -50 ≤ c ∧ c ≤ 50) (hx : 0 ≤ x ∧ x ≤ 20) : -1000 ≤ c * x ∧ c * x ≤ 1000 := by
  have a := Int.mul_nonneg (a := c + 50) (b := x) (by omega) hx.1
  have b := Int.mul_nonneg (a := 50 - c) (b := x) (by omega) hx.1
  rw [Int.add_mul] at a
  rw [Int.sub_mul] at b
  omega
/-- marks: an array of 0 and 1 as a set -/
def ns_mb (W : Nat → Int32) (v : Nat) : Bool := decide (W v = 1)
theorem ns_mb_u (W : Nat → Int32) (k : Nat) : ns_mb (upd W k 1) = ns_up (ns_mb W) k true := by
  funext v
  unfold ns_mb
  by_cases h : v = k
  · rw [h, nu_s, ns_us]; exact decide_eq_true rfl
  · rw [nu_n h, ns_un h]
theorem ns_mb_1 {W : Nat → Int32} {v : Nat} : ns_mb W v = true ↔ W v = 1 := by
  unfold ns_mb
  exact decide_eq_true_iff
theorem ns_mb_0 {W : Nat → Int32} {v : Nat} (h : W v = 0 ∨ W v = 1) : ns_mb W v = true ↔ ¬ W v = 0 := by
  rw [ns_mb_1]
  rcases h with k | k <;> rw [k] <;> decide
def ns_01 (n : Nat) (W : Nat → Int32) : Prop := ∀ v, v < n → W v = 0 ∨ W v = 1
theorem ns_01_u {n : Nat} {W : Nat → Int32} (h : ns_01 n W) (k : Nat) (x : Int32) (hx : x = 0 ∨ x = 1) : ns_01 n (upd W k x) := by
  intro v hv
  by_cases q : v = k
  · rw [q, nu_s]; exact hx
  · rw [nu_n q]; exact h v hv
theorem ni_b0 : vp_nar .boolean 0 = 0 := by decide
theorem ni_b1 : vp_nar .boolean 1 = 1 := by decide
end
section
/-! 13: the class's walks: reset, sum, start, relaxing -/
theorem wx_reset {n m : Nat} {st tc sf : Int32} {aS aT aH aC aK W aF aE aD aP : Nat → Int32} {post : SX → Prop} (hn : n ≤ 24) (h : ∀ W' : Nat → Int32, (∀ v, v < n → W' v = 0) → post ((nI n), (nI m), 0, 0, 0, aS, aT, aH, aC, aK, W', aF, aE, aD, aP)) : wpX_reset post ((nI n), (nI m), st, tc, sf, aS, aT, aH, aC, aK, W, aF, aE, aD, aP) := by
  unfold wpX_reset
  exact loop_0 (fun k i W => wX_reset_17 post (nI n) (nI m) 0 0 0 k (nI i) aS aT aH aC aK W aF aE aD aP) (fun i W => ∀ v, v < i → W v = 0) n W (fun v hv => absurd hv (Nat.not_lt_zero _))
    (fun k W hW => br_t (nI_le (Nat.le_refl _) (by omega)) (h W hW))
    (fun k i W hi hW ih => br_f (nI_ge hi (by omega)) ⟨vp_in_nI (by omega) (by omega), nm_r (e' := upd W i 0) (by rw [nI_clamp (by omega), ni_b0]) (nm_r (nI_1 i) (ih _ (fun v hv => by
      by_cases q : v = i
      · rw [q, nu_s]
      · rw [nu_n q]; exact hW v (by omega))))⟩)
theorem wx_sum {n m : Nat} {st tc sf : Int32} {aS aT aH aC aK W aF aE aD aP : Nat → Int32} {post : Int32 → Prop} (hN : ns_Net n m aS aT aH aC aK) (h : ∀ r : Int32, r.toInt = ns_sm (ns_t aS) n → post r) : wpX_supplySum post ((nI n), (nI m), st, tc, sf, aS, aT, aH, aC, aK, W, aF, aE, aD, aP) := by
  have hn := hN.2.1
  unfold wpX_supplySum
  exact loop_0 (fun k i s => wX_supplySum_4 post (nI n) (nI m) st tc sf aS aT aH aC aK W aF aE aD aP k s (nI i)) (fun i s => s.toInt = ns_sm (ns_t aS) i) n 0 ni_0
    (fun k s hs => br_t (nI_le (Nat.le_refl _) (by omega)) (h s hs))
    (fun k i s hi hs ih => br_f (nI_ge hi (by omega)) ⟨vp_in_nI (by omega) (by omega), nm_r (e' := s + aS i) (by rw [nI_clamp (by omega)]) (nm_r (nI_1 i) (ih _ (by
      have b := ns_sm_bd (f := ns_t aS) (B := 20) i (fun v hv => hN.2.2.2.1 v (by omega))
      have c := hN.2.2.2.1 i (by omega)
      show (s + aS i).toInt = ns_sm (ns_t aS) i + (aS i).toInt
      rw [ni_add (by omega) (by omega), hs])))⟩)
/-- one arc's start: its flow, and what it takes and brings -/
theorem wx_st1 {n : Nat} {aE aT aH : Nat → Int32} {fl : Int32} {i : Nat} {b y : Nat → Int} (hT : ns_n aT i < n) (hH : ns_n aH i < n) (hne : ns_n aT i ≠ ns_n aH i) (hy : ∀ a, a < i → 0 ≤ y a ∧ y a ≤ 20) (hb : ∀ v, v < n → -20 ≤ b v ∧ b v ≤ 20) (hi : i < 96)
    (hfl : fl.toInt = y i) (h0 : 0 ≤ y i ∧ y i ≤ 20) (hE : ∀ v, v < n → (aE v).toInt = ns_exc b (ns_n aT) (ns_n aH) y i v) :
    ∀ v, v < n → (upd (upd aE (ns_n aT i) (aE (ns_n aT i) - fl)) (ns_n aH i) (upd aE (ns_n aT i) (aE (ns_n aT i) - fl) (ns_n aH i) + fl) v).toInt = ns_exc b (ns_n aT) (ns_n aH) y (i + 1) v := by
  intro v hv
  have bd : ∀ u, u < n → -2000 ≤ (aE u).toInt ∧ (aE u).toInt ≤ 2000 := by
    intro u hu
    rw [hE u hu]
    have := ns_exc_bd (b := b) (x := y) (tl := ns_n aT) (hd := ns_n aH) (m := i) (v := u) (hb u hu) (fun a ha => by have := hy a ha; omega)
    omega
  rw [ns_exc_s]
  by_cases q : v = ns_n aH i
  · rw [q, nu_s, nu_n (fun k => hne k.symm), ns_ind_1, ns_ind_0 hne]
    have c := bd (ns_n aH i) hH
    rw [ni_add (by omega) (by omega), hE _ hH, hfl]
    omega
  · rw [nu_n q, ns_ind_0 (fun k => q k.symm)]
    by_cases q' : v = ns_n aT i
    · rw [q', nu_s, ns_ind_1]
      have c := bd (ns_n aT i) hT
      rw [ni_sub (by omega) (by omega), hE _ hT, hfl]
      omega
    · rw [nu_n q', ns_ind_0 (fun k => q' k.symm), hE v hv]
      omega
theorem wx_s62 {n m : Nat} {st tc sf : Int32} {aS aT aH aC aK W aF aE aD aP : Nat → Int32} {post : SX → Prop} {J : Int32 → (Nat → Int32) → (Nat → Int32) → (Nat → Int32) → (Nat → Int32) → (Nat → Int32) → (Nat → Int32) → (Nat → Int32) → (Nat → Int32) → (Nat → Int32) → (Nat → Int32) → Prop}
    {i : Nat} {z : Int32} (hN : ns_Net n m aS aT aH aC aK) (hi : i < m)
    (h : J (nI (i + 1)) aS aT aH aC aK W (upd aF i z) (upd (upd aE (ns_n aT i) (aE (ns_n aT i) - z)) (ns_n aH i) (upd aE (ns_n aT i) (aE (ns_n aT i) - z) (ns_n aH i) + z)) aD aP) :
    wX_startFlow_62 post J (nI i) z (nI i) (nI n) (nI m) st tc sf aS aT aH aC aK W aF aE aD aP := by
  have hm := hN.2.2.1
  have hn := hN.2.1
  obtain ⟨a1, a2, a3, a4, a5⟩ := hN.2.2.2.2.1 i hi
  have e1 : (nI i).toNatClampNeg = i := nI_clamp (by omega)
  have iT : vp_in (aT (nI i).toNatClampNeg) 24 := by rw [e1, a1]; exact vp_in_nI (by omega) (by omega)
  have iH : vp_in (aH (nI i).toNatClampNeg) 24 := by rw [e1, a3]; exact vp_in_nI (by omega) (by omega)
  have iI : vp_in (nI i) 96 := vp_in_nI (by omega) (by omega)
  refine ⟨iI, nm_r (e' := upd aF i z) (by rw [e1]) ⟨iI, iT, iI, iT, nm_r (e' := upd aE (ns_n aT i) (aE (ns_n aT i) - z)) (by rw [e1, nu_s] <;> rfl) ⟨iI, iH, iI, iH,
    nm_r (e' := upd (upd aE (ns_n aT i) (aE (ns_n aT i) - z)) (ns_n aH i) (upd aE (ns_n aT i) (aE (ns_n aT i) - z) (ns_n aH i) + z)) (by rw [e1, nu_s] <;> rfl) (nm_r (nI_1 i) h)⟩⟩⟩
theorem wx_start {n m : Nat} {st tc sf : Int32} {aS aT aH aC aK W aF aE aD aP : Nat → Int32} {post : SX → Prop} (hN : ns_Net n m aS aT aH aC aK)
    (h : ∀ aF' aE' : Nat → Int32, ns_XI n m (ns_n aT) (ns_n aH) (ns_t aS) (ns_t aK) (ns_t aC) (ns_t aF') (ns_t aE') → (∀ v, v < n → (aE' v).toInt = ns_exc (ns_t aS) (ns_n aT) (ns_n aH) (ns_y0 (ns_t aK) (ns_t aC)) m v) → post ((nI n), (nI m), st, tc, sf, aS, aT, aH, aC, aK, W, aF', aE', aD, aP)) : wpX_startFlow post ((nI n), (nI m), st, tc, sf, aS, aT, aH, aC, aK, W, aF, aE, aD, aP) := by
  have hm := hN.2.2.1
  have hn := hN.2.1
  unfold wpX_startFlow
  refine loop_0 (fun k i aE => wX_startFlow_2 post (nI n) (nI m) st tc sf k (nI i) aS aT aH aC aK W aF aE aD aP) (fun i aE => ∀ v, v < i → aE v = aS v) n aE (fun v hv => absurd hv (Nat.not_lt_zero _)) (fun k aE hE => br_t (nI_le (Nat.le_refl _) (by omega)) ?_)
    (fun k i aE hi hE ih => br_f (nI_ge hi (by omega)) ⟨vp_in_nI (by omega) (by omega), vp_in_nI (by omega) (by omega), nm_r (e' := upd aE i (aS i)) (by rw [nI_clamp (by omega)]) (nm_r (nI_1 i) (ih _ (fun v hv => by
      by_cases q : v = i
      · rw [q, nu_s]
      · rw [nu_n q]; exact hE v (by omega))))⟩)
  refine loop_0 (fun k i (s : (Nat → Int32) × (Nat → Int32)) => wX_startFlow_30 post (nI n) (nI m) st tc sf k (nI i) aS aT aH aC aK W s.1 s.2 aD aP)
    (fun i s => (∀ a, a < i → (s.1 a).toInt = ns_y0 (ns_t aK) (ns_t aC) a) ∧ (∀ v, v < n → (s.2 v).toInt = ns_exc (ns_t aS) (ns_n aT) (ns_n aH) (ns_y0 (ns_t aK) (ns_t aC)) i v)) m (aF, aE)
    ⟨fun a ha => absurd ha (Nat.not_lt_zero _), fun v hv => by rw [ns_exc_0]; show (aE v).toInt = (aS v).toInt; rw [hE v hv]⟩
    (fun k s hs => br_t (nI_le (Nat.le_refl _) (by omega)) (h s.1 s.2 (ns_XI_0 (fun a ha => (hN.2.2.2.2.2.1 a ha).1) hs.1 (fun v hv => (hs.2 v hv).trans (ns_exc_c (fun a ha => (hs.1 a ha).symm) v))) hs.2))
    (fun k i s hi hs ih => br_f (nI_ge hi (by omega)) ⟨vp_in_nI (by omega) (by omega), ?_⟩)
  have e1 : (nI i).toNatClampNeg = i := nI_clamp (by omega)
  obtain ⟨a1, a2, a3, a4, a5⟩ := hN.2.2.2.2.1 i hi
  have bC := hN.2.2.2.2.2.1
  have step : ∀ z : Int32, z.toInt = ns_y0 (ns_t aK) (ns_t aC) i → wX_startFlow_62 post (wX_startFlow_30 post (nI n) (nI m) st tc sf k) (nI i) z (nI i) (nI n) (nI m) st tc sf aS aT aH aC aK W s.1 s.2 aD aP := by
    intro z hz
    refine wx_s62 hN hi (ih (upd s.1 i z, _) ⟨fun a ha => ?_, wx_st1 a2 a4 a5 (fun a ha => ns_y0_bd (bC a (by omega))) hN.2.2.2.1 (by omega) hz (ns_y0_bd (bC i hi)) hs.2⟩)
    show (upd s.1 i z a).toInt = _
    by_cases q : a = i
    · rw [q, nu_s, hz]
    · rw [nu_n q]; exact hs.1 a (by omega)
  have k0 : (0 ≤ aK i) ↔ ¬ ns_t aK i < 0 := by
    rw [ni_le, ni_0]
    show 0 ≤ (aK i).toInt ↔ ¬ (aK i).toInt < 0
    omega
  rw [e1]
  refine br_c (fun q => step 0 ?_) (fun q => ⟨vp_in_nI (by omega) (by omega), step (aC i) ?_⟩)
  · unfold ns_y0
    rw [if_neg (k0.mp q), ni_0]
  · unfold ns_y0
    rw [if_pos (Decidable.not_not.mp (fun z => q (k0.mpr z)))]
    rfl
theorem wx_relax {n m : Nat} {st tc sf : Int32} {aS aT aH aC aK W aF aE aD aP : Nat → Int32} {post : Int32 → SX → Prop} {k f t : Nat} {l : Int32} (hf : f < 24) (ht : t < 24) (h0 : (aD f = 1000000 ∨ aD t ≤ aD f + l) → post 0 ((nI n), (nI m), st, tc, sf, aS, aT, aH, aC, aK, W, aF, aE, aD, aP))
    (h1 : ¬ aD f = 1000000 → ¬ aD t ≤ aD f + l → post 1 ((nI n), (nI m), st, tc, sf, aS, aT, aH, aC, aK, W, aF, aE, (upd aD t (aD f + l)), (upd aP t (nI k)))) : wpX_relax post ((nI n), (nI m), st, tc, sf, aS, aT, aH, aC, aK, W, aF, aE, aD, aP) (nI k) (nI f) (nI t) l := by
  have i1 : vp_in (nI f) 24 := vp_in_nI hf (by omega)
  have i2 : vp_in (nI t) 24 := vp_in_nI ht (by omega)
  unfold wpX_relax
  dsimp only
  rw [nI_clamp (show f < 2 ^ 31 by omega), nI_clamp (show t < 2 ^ 31 by omega)]
  exact ⟨i1, br_c (fun z => h0 (Or.inl z)) (fun z => ⟨i1, i2, br_c (fun q => ⟨i1, i2, nm_e ⟨i2, nm_e (h1 z (Int32.not_le.mpr q))⟩⟩) (fun q => h0 (Or.inr (Int32.not_lt.mp q)))⟩)⟩
def nx_in (n m : Nat) (aP : Nat → Int32) : Prop := ∀ u, u < n → aP u = -1 ∨ ∃ k, k < m ∧ aP u = nI k
theorem nx_in_u {n m : Nat} {aP : Nat → Int32} (h : nx_in n m aP) {k : Nat} (hk : k < m) (t : Nat) : nx_in n m (upd aP t (nI k)) := by
  intro u hu
  by_cases q : u = t
  · rw [q, nu_s]; exact Or.inr ⟨k, hk, rfl⟩
  · rw [nu_n q]; exact h u hu
theorem ni_nb {x : Int32} (h : x = 0 ∨ x = 1) : narrow .boolean (.int x) = .int x := by
  rcases h with h | h
  · rw [h]; rfl
  · rw [h]; rfl
theorem wx_55 {n m : Nat} {st tc sf : Int32} {aS aT aH aC aK W aF aE aD aP : Nat → Int32} {post : Int32 → SX → Prop} {J4 : Int32 → Int32 → Int32 → Int32 → Int32 → Int32 → Int32 → (Nat → Int32) → (Nat → Int32) → (Nat → Int32) → (Nat → Int32) → (Nat → Int32) → (Nat → Int32) → (Nat → Int32) → (Nat → Int32) → (Nat → Int32) → (Nat → Int32) → Prop}
    {x1 : Int32} {k : Nat} {π : Nat → Int} {src : Nat → Bool} {hi : Int} {l : List Nat} {w : Nat} {c : Int} (hN : ns_Net n m aS aT aH aC aK) (hk : k < m) (hU : hi + 50 * ((2 * k + 1 : Nat) : Int) + 50 < 1000000) (h0 : 0 ≤ hi) (hP : ns_Pot m (ns_xf (ns_n aT) (ns_n aH)) (ns_xf (ns_n aH) (ns_n aT)) (ns_xl (ns_t aK)) (ns_xr (ns_t aC) (ns_t aF)) π)
    (h1 : x1 = 0 ∨ x1 = 1) (hin : nx_in n m aP)
    (hJ : ns_J n m (ns_xf (ns_n aT) (ns_n aH)) (ns_xf (ns_n aH) (ns_n aT)) (ns_xl (ns_t aK)) (ns_xr (ns_t aC) (ns_t aF)) π 1000000 src hi l w c (2 * k + 1) (decide (x1 = 1)) (ns_t aD) (ns_xp (ns_n aH) aP))
    (h : ∀ (x1 : Int32) (aD aP : Nat → Int32), (x1 = 0 ∨ x1 = 1) → nx_in n m aP → ns_J n m (ns_xf (ns_n aT) (ns_n aH)) (ns_xf (ns_n aH) (ns_n aT)) (ns_xl (ns_t aK)) (ns_xr (ns_t aC) (ns_t aF)) π 1000000 src hi l w c (2 * (k + 1)) (decide (x1 = 1)) (ns_t aD) (ns_xp (ns_n aH) aP) → J4 x1 (nI (k + 1)) (nI n) (nI m) st tc sf aS aT aH aC aK W aF aE aD aP) :
    wX_relaxAllArcs_55 post J4 x1 (nI k) (nI n) (nI m) st tc sf aS aT aH aC aK W aF aE aD aP := by
  have hm := hN.2.2.1
  have hn := hN.2.1
  obtain ⟨a1, a2, a3, a4, a5⟩ := hN.2.2.2.2.1 k hk
  have e := nx_e1 hN hk hU h0 hP hJ
  have iI : vp_in (nI k) 96 := vp_in_nI (by omega) (by omega)
  unfold wX_relaxAllArcs_55
  rw [nI_clamp (show k < 2 ^ 31 by omega)]
  refine ⟨iI, br_c (fun q => nm_r (nI_1 k) (h x1 aD aP h1 hin (e.1 q))) (fun q => ⟨iI, iI, iI, ?_⟩)⟩
  rw [a1, a3]
  refine wx_relax (by omega) (by omega) (fun z => br_t rfl (nm_r (nI_1 k) (h x1 aD aP h1 hin ((e.2 q).1 z)))) (fun z1 z2 => br_f (by decide) (nm_r (nI_1 k) (h 1 _ _ (Or.inr rfl) (nx_in_u hin hk _) ((e.2 q).2 z1 z2))))
theorem wx_relaxAll {n m : Nat} {st tc sf : Int32} {aS aT aH aC aK W aF aE aD aP : Nat → Int32} {post : Int32 → SX → Prop} {π : Nat → Int} {src : Nat → Bool} {r : Nat} (hN : ns_Net n m aS aT aH aC aK) (hP : ns_Pot m (ns_xf (ns_n aT) (ns_n aH)) (ns_xf (ns_n aH) (ns_n aT)) (ns_xl (ns_t aK)) (ns_xr (ns_t aC) (ns_t aF)) π) (hr : r < n) (hin : nx_in n m aP)
    (hK : ns_K n m (ns_xf (ns_n aT) (ns_n aH)) (ns_xf (ns_n aH) (ns_n aT)) (ns_xl (ns_t aK)) (ns_xr (ns_t aC) (ns_t aF)) π 1000000 src r true (ns_t aD) (ns_xp (ns_n aH) aP))
    (h : ∀ (x1 : Int32) (aD aP : Nat → Int32), (x1 = 0 ∨ x1 = 1) → nx_in n m aP → ns_K n m (ns_xf (ns_n aT) (ns_n aH)) (ns_xf (ns_n aH) (ns_n aT)) (ns_xl (ns_t aK)) (ns_xr (ns_t aC) (ns_t aF)) π 1000000 src (r + 1) (decide (x1 = 1)) (ns_t aD) (ns_xp (ns_n aH) aP) → post x1 ((nI n), (nI m), st, tc, sf, aS, aT, aH, aC, aK, W, aF, aE, aD, aP)) :
    wpX_relaxAllArcs post ((nI n), (nI m), st, tc, sf, aS, aT, aH, aC, aK, W, aF, aE, aD, aP) := by
  have hm := hN.2.2.1
  have hn := hN.2.1
  obtain ⟨l, w, c, hl, hw, hJ⟩ := ns_K_J hK hr
  unfold wpX_relaxAllArcs
  refine loop_0 (fun k i (s : Int32 × (Nat → Int32) × (Nat → Int32)) => wX_relaxAllArcs_4 post k s.1 (nI i) (nI n) (nI m) st tc sf aS aT aH aC aK W aF aE s.2.1 s.2.2)
    (fun i s => (s.1 = 0 ∨ s.1 = 1) ∧ nx_in n m s.2.2 ∧ ns_J n m (ns_xf (ns_n aT) (ns_n aH)) (ns_xf (ns_n aH) (ns_n aT)) (ns_xl (ns_t aK)) (ns_xr (ns_t aC) (ns_t aF)) π 1000000 src (12000 * r) l w c (2 * i) (decide (s.1 = 1)) (ns_t s.2.1) (ns_xp (ns_n aH) s.2.2)) m (0, aD, aP)
    ⟨Or.inl rfl, hin, hJ⟩
    (fun k s hs => br_t (nI_le (Nat.le_refl _) (by omega)) ⟨ni_nb hs.1, h s.1 s.2.1 s.2.2 hs.1 hs.2.1 (ns_J_K hs.2.2 (by omega) hl hw)⟩)
    (fun k i s hi hs ih => br_f (nI_ge hi (by omega)) ⟨vp_in_nI (by omega) (by omega), vp_in_nI (by omega) (by omega), ?_⟩)
  obtain ⟨a1, a2, a3, a4, a5⟩ := hN.2.2.2.2.1 i hi
  obtain ⟨s1, s2, s3⟩ := hs
  have iI : vp_in (nI i) 96 := vp_in_nI (by omega) (by omega)
  have e := nx_e0 hN hi (by omega) (by omega) hP s3
  rw [nI_clamp (show i < 2 ^ 31 by omega)]
  refine br_c (fun q => wx_55 hN hi (by omega) (by omega) hP s1 s2 (e.1 (Int32.not_lt.mpr q)) (fun x D P p1 p2 p3 => ih (x, D, P) ⟨p1, p2, p3⟩)) (fun q => ⟨iI, iI, iI, ?_⟩)
  rw [a1, a3]
  refine wx_relax (by omega) (by omega) (fun z => br_t rfl (wx_55 hN hi (by omega) (by omega) hP s1 s2 ((e.2 (Int32.not_le.mp q)).1 z) (fun x D P p1 p2 p3 => ih (x, D, P) ⟨p1, p2, p3⟩)))
    (fun z1 z2 => br_f (by decide) (wx_55 hN hi (by omega) (by omega) hP (Or.inr rfl) (nx_in_u s2 hi _) ((e.2 (Int32.not_le.mp q)).2 z1 z2) (fun x D P p1 p2 p3 => ih (x, D, P) ⟨p1, p2, p3⟩)))
end
section
/-! 14: the class's walks: the search, the push, the routing -/
def nx_src (aE : Nat → Int32) (v : Nat) : Bool := decide (0 < (aE v).toInt)
theorem wx_find {n m : Nat} {st tc sf : Int32} {aS aT aH aC aK W aF aE aD aP : Nat → Int32} {post : SX → Prop} {π : Nat → Int} (hN : ns_Net n m aS aT aH aC aK) (hP : ns_Pot m (ns_xf (ns_n aT) (ns_n aH)) (ns_xf (ns_n aH) (ns_n aT)) (ns_xl (ns_t aK)) (ns_xr (ns_t aC) (ns_t aF)) π)
    (h : ∀ aD aP : Nat → Int32, nx_in n m aP → ns_B n m (ns_xf (ns_n aT) (ns_n aH)) (ns_xf (ns_n aH) (ns_n aT)) (ns_xl (ns_t aK)) (ns_xr (ns_t aC) (ns_t aF)) 1000000 (nx_src aE) 300000 (ns_t aD) (ns_xp (ns_n aH) aP) → ns_C m (ns_xf (ns_n aT) (ns_n aH)) (ns_xf (ns_n aH) (ns_n aT)) (ns_xl (ns_t aK)) (ns_xr (ns_t aC) (ns_t aF)) 1000000 (2 * m) (ns_t aD) → post ((nI n), (nI m), st, tc, sf, aS, aT, aH, aC, aK, W, aF, aE, aD, aP)) :
    wpX_findShortestPaths post ((nI n), (nI m), st, tc, sf, aS, aT, aH, aC, aK, W, aF, aE, aD, aP) := by
  have hm := hN.2.2.1
  have hn := hN.2.1
  have hG := nx_G hN
  unfold wpX_findShortestPaths
  refine loop_0 (fun k i (s : (Nat → Int32) × (Nat → Int32)) => wX_findShortestPaths_2 post (nI n) (nI m) st tc sf k (nI i) aS aT aH aC aK W aF aE s.1 s.2)
    (fun i s => ∀ v, v < i → s.2 v = -1 ∧ (0 < (aE v).toInt → s.1 v = 0) ∧ (¬ 0 < (aE v).toInt → s.1 v = 1000000)) n (aD, aP) (fun v hv => absurd hv (Nat.not_lt_zero _))
    (fun k s hs => br_t (nI_le (Nat.le_refl _) (by omega)) ?_) (fun k i s hi hs ih => br_f (nI_ge hi (by omega)) ⟨vp_in_nI (by omega) (by omega), ?_⟩)
  · have K0 : ns_K n m (ns_xf (ns_n aT) (ns_n aH)) (ns_xf (ns_n aH) (ns_n aT)) (ns_xl (ns_t aK)) (ns_xr (ns_t aC) (ns_t aF)) π 1000000 (nx_src aE) 0 true (ns_t s.1) (ns_xp (ns_n aH) s.2) := by
      refine ns_K_0 (by decide) (fun v hv k => ?_) (fun v hv k => ?_) (fun v hv => ?_)
      · show (s.1 v).toInt = 0
        rw [(hs v hv).2.1 (of_decide_eq_true k), ni_0]
      · show (s.1 v).toInt = 1000000
        rw [(hs v hv).2.2 (fun z => k (decide_eq_true z)), ni_U]
      · unfold ns_xp
        rw [if_pos (hs v hv).1]
    have fin : ∀ (r : Nat) (x : Int32) (D P : Nat → Int32), r ≤ n → nx_in n m P → ns_K n m (ns_xf (ns_n aT) (ns_n aH)) (ns_xf (ns_n aH) (ns_n aT)) (ns_xl (ns_t aK)) (ns_xr (ns_t aC) (ns_t aF)) π 1000000 (nx_src aE) r (decide (x = 1)) (ns_t D) (ns_xp (ns_n aH) P) → (decide (x = 1) = false ∨ r = n) → post ((nI n), (nI m), st, tc, sf, aS, aT, aH, aC, aK, W, aF, aE, D, P) := by
      intro r x D P hr hin hK he
      exact h D P hin (ns_B_mono hK.1 (by omega)) (ns_K_C hG hK he)
    refine loop_0 (fun k i (t : Int32 × (Nat → Int32) × (Nat → Int32)) => wX_findShortestPaths_48 post k t.1 (nI i) (nI n) (nI m) st tc sf aS aT aH aC aK W aF aE t.2.1 t.2.2)
      (fun i t => (t.1 = 0 ∨ t.1 = 1) ∧ nx_in n m t.2.2 ∧ ns_K n m (ns_xf (ns_n aT) (ns_n aH)) (ns_xf (ns_n aH) (ns_n aT)) (ns_xl (ns_t aK)) (ns_xr (ns_t aC) (ns_t aF)) π 1000000 (nx_src aE) i (decide (t.1 = 1)) (ns_t t.2.1) (ns_xp (ns_n aH) t.2.2)) n (1, s.1, s.2)
      ⟨Or.inr rfl, fun u hu => Or.inl (hs u hu).1, K0⟩
      (fun k t ht => br_c (fun q => fin n t.1 t.2.1 t.2.2 (Nat.le_refl _) ht.2.1 ht.2.2 (Or.inr rfl)) (fun q => br_t (nI_le (Nat.le_refl _) (by omega)) (fin n t.1 t.2.1 t.2.2 (Nat.le_refl _) ht.2.1 ht.2.2 (Or.inr rfl))))
      (fun k i t hi ht ih => br_c (fun q => fin i t.1 t.2.1 t.2.2 (by omega) ht.2.1 ht.2.2 (Or.inl (decide_eq_false (by rw [q]; decide)))) (fun q => br_f (nI_ge hi (by omega)) ?_))
    have t1 : t.1 = 1 := by
      rcases ht.1 with z | z
      · exact absurd z q
      · exact z
    have hK := ht.2.2
    rw [decide_eq_true t1] at hK
    exact wx_relaxAll hN hP hi ht.2.1 hK (fun x D P p1 p2 p3 => nm_r (nI_1 i) (ih (x, D, P) ⟨p1, p2, p3⟩))
  · have e1 : (nI i).toNatClampNeg = i := nI_clamp (by omega)
    have iI : vp_in (nI i) 24 := vp_in_nI (by omega) (by omega)
    have step : ∀ z : Int32, (0 < (aE i).toInt → z = 0) → (¬ 0 < (aE i).toInt → z = 1000000) → wX_findShortestPaths_30 post (wX_findShortestPaths_2 post (nI n) (nI m) st tc sf k) (nI i) z (nI i) (nI n) (nI m) st tc sf aS aT aH aC aK W aF aE s.1 s.2 := by
      intro z z1 z2
      refine ⟨iI, nm_r (e' := upd s.1 i z) (by rw [e1]) ⟨iI, nm_r (e' := upd s.2 i (-1)) (by rw [e1]) (nm_r (nI_1 i) (ih (upd s.1 i z, upd s.2 i (-1)) (fun v hv => ?_)))⟩⟩
      show upd s.2 i (-1) v = -1 ∧ (0 < (aE v).toInt → upd s.1 i z v = 0) ∧ (¬ 0 < (aE v).toInt → upd s.1 i z v = 1000000)
      by_cases q : v = i
      · rw [q, nu_s, nu_s]; exact ⟨rfl, z1, z2⟩
      · rw [nu_n q, nu_n q]; exact hs v (by omega)
    rw [e1]
    refine br_c (fun q => step 1000000 (fun z => ?_) (fun _ => rfl)) (fun q => step 0 (fun _ => rfl) (fun z => ?_))
    · rw [ni_le, ni_0] at q; omega
    · rw [ni_le, ni_0] at q; omega
theorem wx_def {n m : Nat} {st tc sf : Int32} {aS aT aH aC aK W aF aE aD aP : Nat → Int32} {post : Int32 → Prop} (hn : n ≤ 24) (h1 : (∀ v, v < n → (aE v).toInt < 0 → aD v = 1000000) → post (-1)) (h2 : ∀ t, t < n → (aE t).toInt < 0 → ¬ aD t = 1000000 → post (nI t)) : wpX_reachedDeficit post ((nI n), (nI m), st, tc, sf, aS, aT, aH, aC, aK, W, aF, aE, aD, aP) := by
  unfold wpX_reachedDeficit
  refine loop_0 (fun k i (_ : Unit) => wX_reachedDeficit_2 post (nI n) (nI m) st tc sf aS aT aH aC aK W aF aE aD aP k (nI i)) (fun i _ => ∀ v, v < i → (aE v).toInt < 0 → aD v = 1000000) n () (fun v hv => absurd hv (Nat.not_lt_zero _))
    (fun k _ hs => br_t (nI_le (Nat.le_refl _) (by omega)) (h1 hs)) (fun k i _ hi hs ih => br_f (nI_ge hi (by omega)) ⟨vp_in_nI (by omega) (by omega), ?_⟩)
  rw [nI_clamp (show i < 2 ^ 31 by omega)]
  refine br_c (fun q => nm_r (nI_1 i) (ih () (fun v hv k => ?_))) (fun q => ⟨vp_in_nI (by omega) (by omega), br_c (fun z => nm_r (nI_1 i) (ih () (fun v hv k => ?_))) (fun z => h2 i hi ?_ z)⟩)
  · by_cases e : v = i
    · rw [ni_le, ni_0] at q; rw [e] at k; omega
    · exact hs v (by omega) k
  · by_cases e : v = i
    · rw [e]; exact z
    · exact hs v (by omega) k
  · rw [ni_le, ni_0] at q; omega
/-- reading a node's parent: its room and the node before -/
theorem wx_room {n m : Nat} {st tc sf : Int32} {aS aT aH aC aK W aF aE aD aP : Nat → Int32} {post : Int32 → Prop} {v e : Nat} (hN : ns_Net n m aS aT aH aC aK) (hv : v < n) (hin : nx_in n m aP) {rc d : Nat → Int} {U hi : Int} {src : Nat → Bool}
    (hB : ns_B n m (ns_xf (ns_n aT) (ns_n aH)) (ns_xf (ns_n aH) (ns_n aT)) (ns_xl (ns_t aK)) rc U src hi d (ns_xp (ns_n aH) aP)) (hp : ns_xp (ns_n aH) aP v = some e) (hF : ∀ k, k < m → -100000 ≤ (aF k).toInt ∧ (aF k).toInt ≤ 100000) (h : ∀ r : Int32, r.toInt = (ns_xr (ns_t aC) (ns_t aF)) e → post r) : wpX_pathRoom post ((nI n), (nI m), st, tc, sf, aS, aT, aH, aC, aK, W, aF, aE, aD, aP) (nI v) := by
  have hm := hN.2.2.1
  have hn := hN.2.1
  obtain ⟨k, hk, e1, e2⟩ := nx_par hN hB hv hp hin
  obtain ⟨a1, a2, a3, a4, a5⟩ := hN.2.2.2.2.1 k hk
  have bC := hN.2.2.2.2.2.1 k hk
  have bF := hF k hk
  have iI : vp_in (nI k) 96 := vp_in_nI (by omega) (by omega)
  have c1 : (nI v).toNatClampNeg = v := nI_clamp (by omega)
  have c2 : (nI k).toNatClampNeg = k := nI_clamp (by omega)
  refine ⟨vp_in_nI (by omega) (by omega), nm_r (e' := nI k) (by rw [c1]; exact e1) ⟨iI, ?_⟩⟩
  rw [c2]
  rcases e2 with ⟨q1, q2, q3⟩ | ⟨q1, q2, q3⟩
  · refine br_t (by rw [a3, q1]) ⟨iI, iI, h _ ?_⟩
    rw [q2, ns_xr_0, ni_sub (by omega) (by omega)]
    rfl
  · refine br_f (by rw [a3]; intro z; exact q1 ((nI_eq (by omega) (by omega)).mp z)) ⟨iI, h _ ?_⟩
    rw [q2, ns_xr_1]
    rfl
theorem wx_prev {n m : Nat} {st tc sf : Int32} {aS aT aH aC aK W aF aE aD aP : Nat → Int32} {post : Int32 → Prop} {v e : Nat} (hN : ns_Net n m aS aT aH aC aK) (hv : v < n) (hin : nx_in n m aP) {rc d : Nat → Int} {U hi : Int} {src : Nat → Bool}
    (hB : ns_B n m (ns_xf (ns_n aT) (ns_n aH)) (ns_xf (ns_n aH) (ns_n aT)) (ns_xl (ns_t aK)) rc U src hi d (ns_xp (ns_n aH) aP)) (hp : ns_xp (ns_n aH) aP v = some e) (h : post (nI ((ns_xf (ns_n aT) (ns_n aH)) e))) : wpX_pathPrevious post ((nI n), (nI m), st, tc, sf, aS, aT, aH, aC, aK, W, aF, aE, aD, aP) (nI v) := by
  have hm := hN.2.2.1
  have hn := hN.2.1
  obtain ⟨k, hk, e1, e2⟩ := nx_par hN hB hv hp hin
  obtain ⟨a1, a2, a3, a4, a5⟩ := hN.2.2.2.2.1 k hk
  have iI : vp_in (nI k) 96 := vp_in_nI (by omega) (by omega)
  have c1 : (nI v).toNatClampNeg = v := nI_clamp (by omega)
  have c2 : (nI k).toNatClampNeg = k := nI_clamp (by omega)
  refine ⟨vp_in_nI (by omega) (by omega), nm_r (e' := nI k) (by rw [c1]; exact e1) ⟨iI, ?_⟩⟩
  rw [c2]
  rcases e2 with ⟨q1, q2, q3⟩ | ⟨q1, q2, q3⟩
  · refine br_t (by rw [a3, q1]) ⟨iI, ?_⟩
    rw [q3] at h
    rw [a1]
    exact h
  · refine br_f (by rw [a3]; intro z; exact q1 ((nI_eq (by omega) (by omega)).mp z)) ⟨iI, ?_⟩
    rw [q3] at h
    rw [a3]
    exact h
theorem wx_small {post : Int32 → Prop} {a b : Int32} (h : ∀ r : Int32, r.toInt ≤ a.toInt → r.toInt ≤ b.toInt → (r = a ∨ r = b) → post r) : wpX_smaller post a b := by
  refine br_c (fun q => h b ?_ (Int.le_refl _) (Or.inr rfl)) (fun q => h a (Int.le_refl _) ?_ (Or.inl rfl))
  · rw [ni_le] at q; exact q
  · rw [ni_le] at q; omega
/-- changing the flow along the path -/
theorem wx_chg {n m : Nat} {st tc sf : Int32} {aS aT aH aC aK W aF aE aD aP : Nat → Int32} {post : SX → Prop} {rc d : Nat → Int} {U hi : Int} {src : Nat → Bool} {r : Nat} {a : Int32} (hN : ns_Net n m aS aT aH aC aK) (hin : nx_in n m aP)
    (hB : ns_B n m (ns_xf (ns_n aT) (ns_n aH)) (ns_xf (ns_n aH) (ns_n aT)) (ns_xl (ns_t aK)) rc U src hi d (ns_xp (ns_n aH) aP)) (ha : 0 ≤ a.toInt ∧ a.toInt ≤ 2000) :
    ∀ (es : List Nat) (v i : Nat) (aF : Nat → Int32) (B : Int), ns_path (ns_xf (ns_n aT) (ns_n aH)) (ns_xp (ns_n aH) aP) r v es → v < n → i + es.length < n → (∀ k, k < m → -B ≤ (aF k).toInt ∧ (aF k).toInt ≤ B) → B + 2000 * es.length ≤ 100000 →
      (∀ aF' : Nat → Int32, ns_xr (ns_t aC) (ns_t aF') = ns_pu a.toInt es (ns_xr (ns_t aC) (ns_t aF)) → post ((nI n), (nI m), st, tc, sf, aS, aT, aH, aC, aK, W, aF', aE, aD, aP)) → wX_changePathFlow_5 post a (nI n) (nI m) st tc sf (es.length + 1) (nI v) (nI i) aS aT aH aC aK W aF aE aD aP := by
  have hm := hN.2.2.1
  have hn := hN.2.1
  intro es
  induction es with
  | nil =>
    intro v i aF B hp hv hi hF hb h
    have c1 : (nI v).toNatClampNeg = v := nI_clamp (by omega)
    refine br_f (nI_ge (show i < n by simp at hi; omega) (by omega)) ⟨vp_in_nI (by omega) (by omega), br_t ?_ (h aF rfl)⟩
    rw [c1]
    exact nx_none hp.2
  | cons e es ih =>
    intro v i aF B hp hv hi hF hb h
    have c1 : (nI v).toNatClampNeg = v := nI_clamp (by omega)
    simp only [List.length_cons] at hi hb
    obtain ⟨k, hk, e1, e2⟩ := nx_par hN hB hv hp.1 hin
    obtain ⟨b1, b2, b3, b4, b5, b6⟩ := hB.2.1 v hv e hp.1
    obtain ⟨a1, a2, a3, a4, a5⟩ := hN.2.2.2.2.1 k hk
    have bF := hF k hk
    have iI : vp_in (nI k) 96 := vp_in_nI (by omega) (by omega)
    have c2 : (nI k).toNatClampNeg = k := nI_clamp (by omega)
    have step : ∀ z : Int32, (-2000 ≤ z.toInt ∧ z.toInt ≤ 2000) → ns_xr (ns_t aC) (ns_t (upd aF k (aF k + z))) = ns_p1 a.toInt e (ns_xr (ns_t aC) (ns_t aF)) →
        wX_changePathFlow_57 post (wX_changePathFlow_5 post a (nI n) (nI m) st tc sf (es.length + 1)) a (nI v) (nI i) z (aF (nI k).toNatClampNeg) (nI k) (nI n) (nI m) st tc sf aS aT aH aC aK W aF aE aD aP := by
      intro z hz he
      refine ⟨iI, nm_r (e' := upd aF k (aF k + z)) (by rw [c2]) (wx_prev hN hv hin hB hp.1 (nm_r (nI_1 i) (ih ((ns_xf (ns_n aT) (ns_n aH)) e) (i + 1) (upd aF k (aF k + z)) (B + 2000) hp.2 (nx_G hN e b1).1 (by omega) (fun j hj => ?_) (by omega) (fun aF' hF' => h aF' ?_))))⟩
      · have := hF j hj
        by_cases q : j = k
        · rw [q, nu_s, ni_add (by omega) (by omega)]; omega
        · rw [nu_n q]; omega
      · rw [hF', he]; rfl
    refine br_f (nI_ge (show i < n by omega) (by omega)) ⟨vp_in_nI (by omega) (by omega), br_f ?_ ⟨vp_in_nI (by omega) (by omega), nm_r (e' := nI k) (by rw [c1]; exact e1) ⟨iI, iI, ?_⟩⟩⟩
    · rw [c1]; exact nx_some hp.1
    · rcases e2 with ⟨q1, q2, q3⟩ | ⟨q1, q2, q3⟩
      · refine br_t (by rw [c2, a3, q1]) (step a (by omega) ?_)
        rw [q2, ns_xr_p0, ns_t_upd, ni_add (by omega) (by omega)]
        rfl
      · have hg : (-a).toInt = - a.toInt := ni_neg (by omega) (by omega)
        refine br_f (by rw [c2, a3]; intro z; exact q1 ((nI_eq (by omega) (by omega)).mp z)) (step (-a) (by omega) ?_)
        rw [q2, ns_xr_p1, ns_t_upd, ni_add (by omega) (by omega), hg]
        rfl
end
section
/-! 15: the class's walks: the push, the routing, what is left, the cost -/
theorem wx_psh {n m : Nat} {st tc sf : Int32} {aS aT aH aC aK W aF aE aD aP : Nat → Int32} {post : SX → Prop} {d : Nat → Int} {U hi : Int} {src : Nat → Bool} {r : Nat} {x1 : Int32} (hN : ns_Net n m aS aT aH aC aK) (hin : nx_in n m aP)
    (hB : ns_B n m (ns_xf (ns_n aT) (ns_n aH)) (ns_xf (ns_n aH) (ns_n aT)) (ns_xl (ns_t aK)) (ns_xr (ns_t aC) (ns_t aF)) U src hi d (ns_xp (ns_n aH) aP)) (hF : ∀ k, k < m → -100000 ≤ (aF k).toInt ∧ (aF k).toInt ≤ 100000) :
    ∀ (es : List Nat) (v i : Nat) (a : Int32), ns_path (ns_xf (ns_n aT) (ns_n aH)) (ns_xp (ns_n aH) aP) r v es → v < n → i + es.length < n → 0 < a.toInt →
      (∀ a' : Int32, 0 < a'.toInt → a'.toInt ≤ a.toInt → (∀ e, e ∈ es → a'.toInt ≤ (ns_xr (ns_t aC) (ns_t aF)) e) → wX_pushTo_58 post x1 a' (nI r) (nI n) (nI m) st tc sf aS aT aH aC aK W aF aE aD aP) → wX_pushTo_13 post x1 (nI n) (nI m) st tc sf aS aT aH aC aK W aF aE aD aP (es.length + 1) a (nI v) (nI i) := by
  have hm := hN.2.2.1
  have hn := hN.2.1
  intro es
  induction es with
  | nil =>
    intro v i a hp hv hi ha h
    have c1 : (nI v).toNatClampNeg = v := nI_clamp (by omega)
    refine br_f (nI_ge (show i < n by simp at hi; omega) (by omega)) ⟨vp_in_nI (by omega) (by omega), br_t ?_ ?_⟩
    · rw [c1]; exact nx_none hp.2
    · rw [hp.1]; exact h a ha (Int.le_refl _) (fun e he => by simp at he)
  | cons e es ih =>
    intro v i a hp hv hi ha h
    have c1 : (nI v).toNatClampNeg = v := nI_clamp (by omega)
    simp only [List.length_cons] at hi
    obtain ⟨b1, b2, b3, b4, b5, b6⟩ := hB.2.1 v hv e hp.1
    refine br_f (nI_ge (show i < n by omega) (by omega)) ⟨vp_in_nI (by omega) (by omega), br_f ?_ (wx_room hN hv hin hB hp.1 hF (fun rm hrm => wx_small (fun s s1 s2 s3 => wx_prev hN hv hin hB hp.1 (nm_r (nI_1 i)
      (ih ((ns_xf (ns_n aT) (ns_n aH)) e) (i + 1) s hp.2 (nx_G hN e b1).1 (by omega) ?_ (fun a' p1 p2 p3 => h a' p1 (by omega) (fun f hf => ?_)))))))⟩
    · rw [c1]; exact nx_some hp.1
    · rcases s3 with z | z
      · rw [z]; exact ha
      · rw [z, hrm]; exact b2
    · rcases List.mem_cons.mp hf with z | z
      · rw [z, ← hrm]; omega
      · exact p3 f z
theorem nx_eb {n m : Nat} {aS aT aH aC aK aF aE : Nat → Int32} (hN : ns_Net n m aS aT aH aC aK) (hI : ns_XI n m (ns_n aT) (ns_n aH) (ns_t aS) (ns_t aK) (ns_t aC) (ns_t aF) (ns_t aE)) :
    (∀ v, v < n → -2000 ≤ (aE v).toInt ∧ (aE v).toInt ≤ 2000) ∧ (∀ k, k < m → 0 ≤ (aF k).toInt ∧ (aF k).toInt ≤ 20) := by
  have hm := hN.2.2.1
  have f : ∀ k, k < m → 0 ≤ (aF k).toInt ∧ (aF k).toInt ≤ 20 := by
    intro k hk
    have a := hI.1 k hk
    have b := hN.2.2.2.2.2.1 k hk
    have a : 0 ≤ (aF k).toInt ∧ (aF k).toInt ≤ (aC k).toInt := a
    omega
  refine ⟨fun v hv => ?_, f⟩
  have a : (aE v).toInt = ns_exc (ns_t aS) (ns_n aT) (ns_n aH) (ns_t aF) m v := hI.2.1 v hv
  have b := ns_exc_bd (b := ns_t aS) (x := ns_t aF) (tl := (ns_n aT)) (hd := (ns_n aH)) (m := m) (v := v) (hN.2.2.2.1 v hv) (fun k hk => by
    have := f k hk
    show -20 ≤ (aF k).toInt ∧ (aF k).toInt ≤ 20
    omega)
  omega
theorem wx_push {n m : Nat} {st tc sf : Int32} {aS aT aH aC aK W aF aE aD aP : Nat → Int32} {post : SX → Prop} {t : Nat} {π : Nat → Int} (hN : ns_Net n m aS aT aH aC aK) (hI : ns_XI n m (ns_n aT) (ns_n aH) (ns_t aS) (ns_t aK) (ns_t aC) (ns_t aF) (ns_t aE)) (hP : ns_Pot m (ns_xf (ns_n aT) (ns_n aH)) (ns_xf (ns_n aH) (ns_n aT)) (ns_xl (ns_t aK)) (ns_xr (ns_t aC) (ns_t aF)) π)
    (hin : nx_in n m aP) (hB : ns_B n m (ns_xf (ns_n aT) (ns_n aH)) (ns_xf (ns_n aH) (ns_n aT)) (ns_xl (ns_t aK)) (ns_xr (ns_t aC) (ns_t aF)) 1000000 (nx_src aE) 300000 (ns_t aD) (ns_xp (ns_n aH) aP)) (hC : ns_C m (ns_xf (ns_n aT) (ns_n aH)) (ns_xf (ns_n aH) (ns_n aT)) (ns_xl (ns_t aK)) (ns_xr (ns_t aC) (ns_t aF)) 1000000 (2 * m) (ns_t aD))
    (ht : t < n) (h1 : (aE t).toInt < 0) (h2 : ¬ aD t = 1000000)
    (h : ∀ aF' aE' : Nat → Int32, ns_XI n m (ns_n aT) (ns_n aH) (ns_t aS) (ns_t aK) (ns_t aC) (ns_t aF') (ns_t aE') → ns_P (ns_t aE') n < ns_P (ns_t aE) n → post ((nI n), (nI m), st, tc, sf, aS, aT, aH, aC, aK, W, aF', aE', aD, aP)) : wpX_pushTo post ((nI n), (nI m), st, tc, sf, aS, aT, aH, aC, aK, W, aF, aE, aD, aP) (nI t) := by
  have hm := hN.2.2.1
  have hn := hN.2.1
  obtain ⟨bE, bF⟩ := nx_eb hN hI
  have bt := bE t ht
  have c1 : (nI t).toNatClampNeg = t := nI_clamp (by omega)
  have it : vp_in (nI t) 24 := vp_in_nI (by omega) (by omega)
  obtain ⟨es, r, p1, p2, p3, p4⟩ := ns_path_of (nx_G hN) hB ht (show (aD t).toInt ≠ 1000000 by intro z; exact h2 (ni_eq.mpr (by rw [z, ni_U])))
  have p4 : 0 < (aE r).toInt := of_decide_eq_true p4
  have br := bE r p3
  have c2 : (nI r).toNatClampNeg = r := nI_clamp (by omega)
  have ir : vp_in (nI r) 24 := vp_in_nI (by omega) (by omega)
  have htr : t ≠ r := by intro z; rw [z] at h1; omega
  have hg : (-(aE t)).toInt = - (aE t).toInt := ni_neg (by omega) (by omega)
  refine ⟨it, nm_r (e' := -(aE t)) (by rw [c1]) ⟨es.length + 1, wx_psh hN hin hB (fun k hk => by have := bF k hk; omega) es t 0 (-(aE t)) p1 ht (by omega) (by omega) (fun a a1 a2 a3 => ⟨ir, wx_small (fun s s1 s2 s3 => ?_)⟩)⟩⟩
  rw [c2] at s2
  have s0 : 0 < s.toInt := by
    rcases s3 with z | z
    · rw [z]; exact a1
    · rw [z, c2]; exact p4
  refine ⟨ir, ir, nm_r (e' := upd aE r (aE r - s)) (by rw [c2]) ⟨it, it, nm_r (e' := upd (upd aE r (aE r - s)) t (upd aE r (aE r - s) t + s)) (by rw [c1])
    ⟨es.length + 1, wx_chg (aF := aF) hN hin hB (by omega) es t 0 aF 20 p1 ht (by omega) (fun k hk => by have := bF k hk; omega) (by omega) (fun aF' hF' => ?_)⟩⟩⟩
  have q := ns_XI_push (x' := ns_t aF') (e' := ns_t (upd (upd aE r (aE r - s)) t (upd aE r (aE r - s) t + s))) (a := s.toInt) (t := t) (r := r) (nx_G hN) hI hB (by decide) hC hP ht p3 p1 (by omega) (fun f hf => by have := a3 f hf; omega)
    (show s.toInt ≤ - (aE t).toInt by omega) (show s.toInt ≤ (aE r).toInt by omega) h1 p4 hF' (fun v hv => by
      show (upd (upd aE r (aE r - s)) t (upd aE r (aE r - s) t + s) v).toInt = if v = t then (aE t).toInt + s.toInt else if v = r then (aE r).toInt - s.toInt else (aE v).toInt
      by_cases z : v = t
      · rw [z, nu_s, nu_n htr, if_pos rfl, ni_add (by omega) (by omega)]
      · rw [nu_n z, if_neg z]
        by_cases z' : v = r
        · rw [z', nu_s, if_pos rfl, ni_sub (by omega) (by omega)]
        · rw [nu_n z', if_neg z'])
  exact h aF' _ q.1 (by omega)
theorem wx_route {n m : Nat} {st tc sf : Int32} {aS aT aH aC aK W aF aE aD aP : Nat → Int32} {post : SX → Prop} (hN : ns_Net n m aS aT aH aC aK) (hI : ns_XI n m (ns_n aT) (ns_n aH) (ns_t aS) (ns_t aK) (ns_t aC) (ns_t aF) (ns_t aE)) (hp : ns_P (ns_t aE) n ≤ 3000)
    (h : ∀ aF aE aD aP : Nat → Int32, ns_XI n m (ns_n aT) (ns_n aH) (ns_t aS) (ns_t aK) (ns_t aC) (ns_t aF) (ns_t aE) → (∃ Z, ns_Cl n m (ns_n aT) (ns_n aH) (ns_t aC) (ns_t aE) (ns_t aF) Z) → post ((nI n), (nI m), st, tc, sf, aS, aT, aH, aC, aK, W, aF, aE, aD, aP)) : wpX_routeExcess post ((nI n), (nI m), st, tc, sf, aS, aT, aH, aC, aK, W, aF, aE, aD, aP) := by
  have hm := hN.2.2.1
  have hn := hN.2.1
  unfold wpX_routeExcess
  refine loop_0 (fun k i (s : (Nat → Int32) × (Nat → Int32) × (Nat → Int32) × (Nat → Int32)) => wX_routeExcess_2 post k (nI i) (nI n) (nI m) st tc sf aS aT aH aC aK W s.1 s.2.1 s.2.2.1 s.2.2.2)
    (fun i s => ns_XI n m (ns_n aT) (ns_n aH) (ns_t aS) (ns_t aK) (ns_t aC) (ns_t s.1) (ns_t s.2.1) ∧ ns_P (ns_t s.2.1) n + i ≤ 3000) 1000000 (aF, aE, aD, aP) ⟨hI, by dsimp only; omega⟩
    (fun k s hs => absurd hs.2 (by have := ns_P_nn (ns_t s.2.1) n; omega)) (fun k i s hi hs ih => br_f (nI_ge (b := 1000000) hi (by decide)) ?_)
  obtain ⟨hI', hs2⟩ := hs
  obtain ⟨π, hP⟩ := hI'.2.2
  refine wx_find hN hP (fun D P p1 p2 p3 => wx_def hn (fun z => br_t rfl (h _ _ _ _ hI' ⟨_, ns_X_cl (nx_G hN) p2 (by decide) (by decide) p3 (fun v hv k => decide_eq_true k) (fun v hv k => ?_)⟩))
    (fun t ht t1 t2 => br_f (ni_nm1 (by omega)) (wx_push hN hI' hP p1 p2 p3 ht t1 t2 (fun F' E' q1 q2 => nm_r (nI_1 i) (ih (F', E', D, P) ⟨q1, ?_⟩)))))
  · show (D v).toInt = 1000000
    rw [z v hv k, ni_U]
  · show ns_P (ns_t E') n + ((i + 1 : Nat) : Int) ≤ 3000
    omega
theorem wx_unr {n m : Nat} {st tc sf : Int32} {aS aT aH aC aK W aF aE aD aP : Nat → Int32} {post : Int32 → Prop} (hn : n ≤ 24) (hE : ∀ v, v < n → -2000 ≤ (aE v).toInt ∧ (aE v).toInt ≤ 2000) (h : ∀ r : Int32, r.toInt = ns_P (ns_t aE) n → post r) : wpX_unroutedExcess post ((nI n), (nI m), st, tc, sf, aS, aT, aH, aC, aK, W, aF, aE, aD, aP) := by
  unfold wpX_unroutedExcess
  refine loop_0 (fun k i s => wX_unroutedExcess_4 post (nI n) (nI m) st tc sf aS aT aH aC aK W aF aE aD aP k s (nI i)) (fun i s => s.toInt = ns_P (ns_t aE) i) n 0 ni_0
    (fun k s hs => br_t (nI_le (Nat.le_refl _) (by omega)) (h s hs)) (fun k i s hi hs ih => br_f (nI_ge hi (by omega)) ⟨vp_in_nI (by omega) (by omega), ?_⟩)
  rw [nI_clamp (show i < 2 ^ 31 by omega)]
  have b := ns_sm_bd (f := fun v => ns_ps (ns_t aE v)) (B := 2000) i (fun v hv => by
    have := hE v (by omega)
    show -2000 ≤ ns_ps (aE v).toInt ∧ ns_ps (aE v).toInt ≤ 2000
    unfold ns_ps
    split <;> omega)
  have c := hE i hi
  have hs : s.toInt = ns_sm (fun v => ns_ps (ns_t aE v)) i := hs
  refine br_c (fun q => nm_r (nI_1 i) (ih _ ?_)) (fun q => ⟨vp_in_nI (by omega) (by omega), nm_e (nm_r (nI_1 i) (ih _ ?_))⟩)
  · rw [ni_le, ni_0] at q
    show s.toInt = ns_sm (fun v => ns_ps (ns_t aE v)) i + ns_ps (aE i).toInt
    unfold ns_ps
    rw [if_neg (by omega), hs]
    unfold ns_ps
    omega
  · rw [ni_le, ni_0] at q
    show (s + aE i).toInt = ns_sm (fun v => ns_ps (ns_t aE v)) i + ns_ps (aE i).toInt
    rw [ni_add (by omega) (by omega), hs]
    have : ns_ps (aE i).toInt = (aE i).toInt := if_pos (by omega)
    rw [this]
theorem wx_cost {n m : Nat} {st tc sf : Int32} {aS aT aH aC aK W aF aE aD aP : Nat → Int32} {post : Int32 → Prop} (hN : ns_Net n m aS aT aH aC aK) (hF : ∀ k, k < m → 0 ≤ (aF k).toInt ∧ (aF k).toInt ≤ 20) (h : ∀ r : Int32, r.toInt = ns_sm (fun a => ns_t aK a * ns_t aF a) m → post r) : wpX_flowCost post ((nI n), (nI m), st, tc, sf, aS, aT, aH, aC, aK, W, aF, aE, aD, aP) := by
  have hm := hN.2.2.1
  unfold wpX_flowCost
  refine loop_0 (fun k i s => wX_flowCost_4 post (nI n) (nI m) st tc sf aS aT aH aC aK W aF aE aD aP k s (nI i)) (fun i s => s.toInt = ns_sm (fun a => ns_t aK a * ns_t aF a) i) m 0 ni_0
    (fun k s hs => br_t (nI_le (Nat.le_refl _) (by omega)) (h s hs)) (fun k i s hi hs ih => br_f (nI_ge hi (by omega)) ⟨vp_in_nI (by omega) (by omega), vp_in_nI (by omega) (by omega), ?_⟩)
  rw [nI_clamp (show i < 2 ^ 31 by omega)]
  have b := ns_sm_bd (f := fun a => ns_t aK a * ns_t aF a) (B := 1000) i (fun v hv => ns_cx_bd (hN.2.2.2.2.2.2 v (by omega)) (hF v (by omega)))
  have c := ns_cx_bd (hN.2.2.2.2.2.2 i hi) (hF i hi)
  have e : (aK i * aF i).toInt = (aK i).toInt * (aF i).toInt := ni_mul (by omega) (by omega)
  refine nm_e (nm_r (nI_1 i) (ih _ ?_))
  show (s + aK i * aF i).toInt = ns_sm (fun a => ns_t aK a * ns_t aF a) i + (aK i).toInt * (aF i).toInt
  rw [ni_add (by omega) (by omega), hs, e]
end
section
/-! 16: the class's walks: the witness, and the whole solve -/
theorem nx_m0 {n m : Nat} {aS aT aH aC aK aF W : Nat → Int32} {ini : Nat → Bool} {r k : Nat} {g : Bool} (hN : ns_Net n m aS aT aH aC aK) (hk : k < m) (h1 : ns_01 n W) (h : ns_mk n m (ns_xf (ns_n aT) (ns_n aH)) (ns_xf (ns_n aH) (ns_n aT)) (ns_xr (ns_t aC) (ns_t aF)) ini r (2 * k) g (ns_mb W)) :
    ((aC k ≤ aF k ∨ W (ns_n aH k) = 0 ∨ ¬ W (ns_n aT k) = 0) → ns_mk n m (ns_xf (ns_n aT) (ns_n aH)) (ns_xf (ns_n aH) (ns_n aT)) (ns_xr (ns_t aC) (ns_t aF)) ini r (2 * k + 1) g (ns_mb W)) ∧
    (¬ aC k ≤ aF k → ¬ W (ns_n aH k) = 0 → W (ns_n aT k) = 0 → ns_mk n m (ns_xf (ns_n aT) (ns_n aH)) (ns_xf (ns_n aH) (ns_n aT)) (ns_xr (ns_t aC) (ns_t aF)) ini r (2 * k + 1) true (ns_mb (upd W (ns_n aT k) 1))) := by
  obtain ⟨a1, a2, a3, a4, a5⟩ := hN.2.2.2.2.1 k hk
  have er : (ns_xr (ns_t aC) (ns_t aF)) (2 * k) = (aC k).toInt - (aF k).toInt := ns_xr_0 _ _ _
  have ef : (ns_xf (ns_n aT) (ns_n aH)) (2 * k) = ns_n aT k := ns_xf_0 _ _ _
  have et : (ns_xf (ns_n aH) (ns_n aT)) (2 * k) = ns_n aH k := ns_xf_0 _ _ _
  have bT := ns_mb_0 (h1 _ a2)
  have bH := ns_mb_0 (h1 _ a4)
  refine ⟨fun q => ns_mk_no h (fun z y => ?_), fun q1 q2 q3 => ?_⟩
  · rw [er] at z
    rw [et] at y
    rw [ef]
    rcases q with q | q | q
    · rw [ni_le] at q; omega
    · exact absurd q (bH.mp y)
    · exact bT.mpr q
  · rw [ni_le] at q1
    have u := ns_mk_upd (by rw [ef]; exact a2) (by rw [et]; exact a4) h (by omega) (by rw [er]; omega) (by rw [et]; exact bH.mpr q2) (by rw [ef]; intro z; exact bT.mp z q3)
    rw [ef] at u
    rw [ns_mb_u]
    exact u
theorem nx_m1 {n m : Nat} {aS aT aH aC aK aF W : Nat → Int32} {ini : Nat → Bool} {r k : Nat} {g : Bool} (hN : ns_Net n m aS aT aH aC aK) (hk : k < m) (h1 : ns_01 n W) (h : ns_mk n m (ns_xf (ns_n aT) (ns_n aH)) (ns_xf (ns_n aH) (ns_n aT)) (ns_xr (ns_t aC) (ns_t aF)) ini r (2 * k + 1) g (ns_mb W)) :
    ((aF k ≤ 0 ∨ W (ns_n aT k) = 0 ∨ ¬ W (ns_n aH k) = 0) → ns_mk n m (ns_xf (ns_n aT) (ns_n aH)) (ns_xf (ns_n aH) (ns_n aT)) (ns_xr (ns_t aC) (ns_t aF)) ini r (2 * (k + 1)) g (ns_mb W)) ∧
    (¬ aF k ≤ 0 → ¬ W (ns_n aT k) = 0 → W (ns_n aH k) = 0 → ns_mk n m (ns_xf (ns_n aT) (ns_n aH)) (ns_xf (ns_n aH) (ns_n aT)) (ns_xr (ns_t aC) (ns_t aF)) ini r (2 * (k + 1)) true (ns_mb (upd W (ns_n aH k) 1))) := by
  obtain ⟨a1, a2, a3, a4, a5⟩ := hN.2.2.2.2.1 k hk
  have er : (ns_xr (ns_t aC) (ns_t aF)) (2 * k + 1) = (aF k).toInt := ns_xr_1 _ _ _
  have ef : (ns_xf (ns_n aT) (ns_n aH)) (2 * k + 1) = ns_n aH k := ns_xf_1 _ _ _
  have et : (ns_xf (ns_n aH) (ns_n aT)) (2 * k + 1) = ns_n aT k := ns_xf_1 _ _ _
  have bT := ns_mb_0 (h1 _ a2)
  have bH := ns_mb_0 (h1 _ a4)
  have e2 : 2 * (k + 1) = 2 * k + 1 + 1 := by omega
  rw [e2]
  refine ⟨fun q => ns_mk_no h (fun z y => ?_), fun q1 q2 q3 => ?_⟩
  · rw [er] at z
    rw [et] at y
    rw [ef]
    rcases q with q | q | q
    · rw [ni_le, ni_0] at q; omega
    · exact absurd q (bT.mp y)
    · exact bH.mpr q
  · rw [ni_le, ni_0] at q1
    have u := ns_mk_upd (by rw [ef]; exact a4) (by rw [et]; exact a2) h (by omega) (by rw [er]; omega) (by rw [et]; exact bT.mpr q2) (by rw [ef]; intro z; exact bH.mp z q3)
    rw [ef] at u
    rw [ns_mb_u]
    exact u
theorem wx_70 {n m : Nat} {st tc sf : Int32} {aS aT aH aC aK W aF aE aD aP : Nat → Int32} {post : Int32 → SX → Prop} {J4 : Int32 → Int32 → (Nat → Int32) → (Nat → Int32) → (Nat → Int32) → (Nat → Int32) → (Nat → Int32) → (Nat → Int32) → (Nat → Int32) → (Nat → Int32) → (Nat → Int32) → (Nat → Int32) → Prop}
    {x1 : Int32} {k r : Nat} {ini : Nat → Bool} (hN : ns_Net n m aS aT aH aC aK) (hk : k < m) (h1 : x1 = 0 ∨ x1 = 1) (h01 : ns_01 n W) (hmk : ns_mk n m (ns_xf (ns_n aT) (ns_n aH)) (ns_xf (ns_n aH) (ns_n aT)) (ns_xr (ns_t aC) (ns_t aF)) ini r (2 * k + 1) (decide (x1 = 1)) (ns_mb W))
    (h : ∀ (x1 : Int32) (W : Nat → Int32), (x1 = 0 ∨ x1 = 1) → ns_01 n W → ns_mk n m (ns_xf (ns_n aT) (ns_n aH)) (ns_xf (ns_n aH) (ns_n aT)) (ns_xr (ns_t aC) (ns_t aF)) ini r (2 * (k + 1)) (decide (x1 = 1)) (ns_mb W) → J4 x1 (nI (k + 1)) aS aT aH aC aK W aF aE aD aP) :
    wX_growWitness_70 post J4 x1 (nI k) (nI (ns_n aT k)) (nI (ns_n aH k)) (nI n) (nI m) st tc sf aS aT aH aC aK W aF aE aD aP := by
  have hm := hN.2.2.1
  have hn := hN.2.1
  obtain ⟨a1, a2, a3, a4, a5⟩ := hN.2.2.2.2.1 k hk
  have e := nx_m1 hN hk h01 hmk
  have iT : vp_in (nI (ns_n aT k)) 24 := vp_in_nI (by omega) (by omega)
  have iH : vp_in (nI (ns_n aH k)) 24 := vp_in_nI (by omega) (by omega)
  unfold wX_growWitness_70
  rw [nI_clamp (show k < 2 ^ 31 by omega), nI_clamp (show ns_n aT k < 2 ^ 31 by omega), nI_clamp (show ns_n aH k < 2 ^ 31 by omega)]
  exact ⟨vp_in_nI (by omega) (by omega), br_c (fun q => nm_r (nI_1 k) (h x1 W h1 h01 (e.1 (Or.inl q)))) (fun q => ⟨iT, br_c (fun y => nm_r (nI_1 k) (h x1 W h1 h01 (e.1 (Or.inr (Or.inl y))))) (fun y => ⟨iH,
    br_c (fun z => ⟨iH, nm_r (e' := upd W (ns_n aH k) 1) (by rw [ni_b1]) (nm_r (nI_1 k) (h 1 _ (Or.inr rfl) (ns_01_u h01 _ 1 (Or.inr rfl)) (e.2 q y z)))⟩) (fun z => nm_r (nI_1 k) (h x1 W h1 h01 (e.1 (Or.inr (Or.inr z)))))⟩)⟩)⟩
theorem wx_grow {n m : Nat} {st tc sf : Int32} {aS aT aH aC aK W aF aE aD aP : Nat → Int32} {post : Int32 → SX → Prop} {r : Nat} {ini : Nat → Bool} (hN : ns_Net n m aS aT aH aC aK) (h01 : ns_01 n W) (hmk : ns_mk n m (ns_xf (ns_n aT) (ns_n aH)) (ns_xf (ns_n aH) (ns_n aT)) (ns_xr (ns_t aC) (ns_t aF)) ini r 0 false (ns_mb W))
    (h : ∀ (x1 : Int32) (W : Nat → Int32), (x1 = 0 ∨ x1 = 1) → ns_01 n W → ns_mk n m (ns_xf (ns_n aT) (ns_n aH)) (ns_xf (ns_n aH) (ns_n aT)) (ns_xr (ns_t aC) (ns_t aF)) ini (r + 1) 0 false (ns_mb W) → (x1 = 0 → ns_cA m (ns_xf (ns_n aT) (ns_n aH)) (ns_xf (ns_n aH) (ns_n aT)) (ns_xr (ns_t aC) (ns_t aF)) (2 * m) (ns_mb W)) → post x1 ((nI n), (nI m), st, tc, sf, aS, aT, aH, aC, aK, W, aF, aE, aD, aP)) : wpX_growWitness post ((nI n), (nI m), st, tc, sf, aS, aT, aH, aC, aK, W, aF, aE, aD, aP) := by
  have hm := hN.2.2.1
  have hn := hN.2.1
  unfold wpX_growWitness
  refine loop_0 (fun k i (s : Int32 × (Nat → Int32)) => wX_growWitness_4 post (nI n) (nI m) st tc sf k s.1 (nI i) aS aT aH aC aK s.2 aF aE aD aP)
    (fun i s => (s.1 = 0 ∨ s.1 = 1) ∧ ns_01 n s.2 ∧ ns_mk n m (ns_xf (ns_n aT) (ns_n aH)) (ns_xf (ns_n aH) (ns_n aT)) (ns_xr (ns_t aC) (ns_t aF)) ini r (2 * i) (decide (s.1 = 1)) (ns_mb s.2)) m (0, W) ⟨Or.inl rfl, h01, hmk⟩
    (fun k s hs => br_t (nI_le (Nat.le_refl _) (by omega)) ⟨ni_nb hs.1, h s.1 s.2 hs.1 hs.2.1 (ns_mk_end hs.2.2).1 (fun z => (ns_mk_end hs.2.2).2 (decide_eq_false (by rw [z]; decide)))⟩)
    (fun k i s hi hs ih => br_f (nI_ge hi (by omega)) ?_)
  obtain ⟨s1, s2, s3⟩ := hs
  obtain ⟨a1, a2, a3, a4, a5⟩ := hN.2.2.2.2.1 i hi
  have iI : vp_in (nI i) 96 := vp_in_nI (by omega) (by omega)
  have iT : vp_in (nI (ns_n aT i)) 24 := vp_in_nI (by omega) (by omega)
  have iH : vp_in (nI (ns_n aH i)) 24 := vp_in_nI (by omega) (by omega)
  have e := nx_m0 hN hi s2 s3
  have cont : ∀ (x : Int32) (W' : Nat → Int32), (x = 0 ∨ x = 1) → ns_01 n W' → ns_mk n m (ns_xf (ns_n aT) (ns_n aH)) (ns_xf (ns_n aH) (ns_n aT)) (ns_xr (ns_t aC) (ns_t aF)) ini r (2 * i + 1) (decide (x = 1)) (ns_mb W') → wX_growWitness_70 post (wX_growWitness_4 post (nI n) (nI m) st tc sf k) x (nI i) (nI (ns_n aT i)) (nI (ns_n aH i)) (nI n) (nI m) st tc sf aS aT aH aC aK W' aF aE aD aP :=
    fun x W' p1 p2 p3 => wx_70 hN hi p1 p2 p3 (fun y W'' q1 q2 q3 => ih (y, W'') ⟨q1, q2, q3⟩)
  refine ⟨iI, nm_r (e' := nI (ns_n aT i)) (by rw [nI_clamp (show i < 2 ^ 31 by omega)]; exact a1) ⟨iI, nm_r (e' := nI (ns_n aH i)) (by rw [nI_clamp (show i < 2 ^ 31 by omega)]; exact a3) ⟨iI, iI, ?_⟩⟩⟩
  rw [nI_clamp (show i < 2 ^ 31 by omega), nI_clamp (show ns_n aT i < 2 ^ 31 by omega), nI_clamp (show ns_n aH i < 2 ^ 31 by omega)]
  exact br_c (fun q => cont s.1 s.2 s1 s2 (e.1 (Or.inl q))) (fun q => ⟨iH, br_c (fun y => cont s.1 s.2 s1 s2 (e.1 (Or.inr (Or.inl y)))) (fun y => ⟨iT,
    br_c (fun z => ⟨iT, nm_r (e' := upd s.2 (ns_n aT i) 1) (by rw [ni_b1]) (cont 1 _ (Or.inr rfl) (ns_01_u s2 _ 1 (Or.inr rfl)) (e.2 q y z))⟩) (fun z => cont s.1 s.2 s1 s2 (e.1 (Or.inr (Or.inr z))))⟩)⟩)
theorem wx_mark {n m : Nat} {st tc sf : Int32} {aS aT aH aC aK W aF aE aD aP : Nat → Int32} {post : SX → Prop} (hN : ns_Net n m aS aT aH aC aK)
    (h : ∀ W : Nat → Int32, ns_01 n W → (∀ v, v < n → (aE v).toInt < 0 → ns_mb W v = true) →
      (∀ Z : Nat → Bool, (∀ v, v < n → (aE v).toInt < 0 → Z v = true) → ns_cA m (ns_xf (ns_n aT) (ns_n aH)) (ns_xf (ns_n aH) (ns_n aT)) (ns_xr (ns_t aC) (ns_t aF)) (2 * m) Z → ∀ v, v < n → ns_mb W v = true → Z v = true) → ns_cA m (ns_xf (ns_n aT) (ns_n aH)) (ns_xf (ns_n aH) (ns_n aT)) (ns_xr (ns_t aC) (ns_t aF)) (2 * m) (ns_mb W) → post ((nI n), (nI m), st, tc, sf, aS, aT, aH, aC, aK, W, aF, aE, aD, aP)) : wpX_markWitness post ((nI n), (nI m), st, tc, sf, aS, aT, aH, aC, aK, W, aF, aE, aD, aP) := by
  have hm := hN.2.2.1
  have hn := hN.2.1
  unfold wpX_markWitness
  refine loop_0 (fun k i W => wX_markWitness_2 post (nI n) (nI m) st tc sf k (nI i) aS aT aH aC aK W aF aE aD aP) (fun i W => ∀ v, v < i → (W v = 0 ∨ W v = 1) ∧ ns_mb W v = decide ((aE v).toInt < 0)) n W (fun v hv => absurd hv (Nat.not_lt_zero _))
    (fun k W hW => br_t (nI_le (Nat.le_refl _) (by omega)) ?_) (fun k i W hi hW ih => br_f (nI_ge hi (by omega)) ⟨vp_in_nI (by omega) (by omega), ?_⟩)
  · have fin : ∀ (r i : Nat) (g : Bool) (W : Nat → Int32), ns_01 n W → ns_mk n m (ns_xf (ns_n aT) (ns_n aH)) (ns_xf (ns_n aH) (ns_n aT)) (ns_xr (ns_t aC) (ns_t aF)) (fun v => decide ((aE v).toInt < 0)) r i g (ns_mb W) → ns_cA m (ns_xf (ns_n aT) (ns_n aH)) (ns_xf (ns_n aH) (ns_n aT)) (ns_xr (ns_t aC) (ns_t aF)) (2 * m) (ns_mb W) → post ((nI n), (nI m), st, tc, sf, aS, aT, aH, aC, aK, W, aF, aE, aD, aP) := by
      intro r i g W h1 h2 h3
      exact h W h1 (fun v hv k => h2.1 v hv (decide_eq_true k)) (fun Z hZ => h2.2.1 Z (fun v hv k => hZ v hv (of_decide_eq_true k))) h3
    refine loop_0 (fun k i (t : Int32 × (Nat → Int32)) => wX_markWitness_40 post k t.1 (nI i) (nI n) (nI m) st tc sf aS aT aH aC aK t.2 aF aE aD aP)
      (fun i t => (t.1 = 0 ∨ t.1 = 1) ∧ ns_01 n t.2 ∧ ns_mk n m (ns_xf (ns_n aT) (ns_n aH)) (ns_xf (ns_n aH) (ns_n aT)) (ns_xr (ns_t aC) (ns_t aF)) (fun v => decide ((aE v).toInt < 0)) i 0 false (ns_mb t.2) ∧ (t.1 = 0 → ns_cA m (ns_xf (ns_n aT) (ns_n aH)) (ns_xf (ns_n aH) (ns_n aT)) (ns_xr (ns_t aC) (ns_t aF)) (2 * m) (ns_mb t.2))) n (1, W)
      ⟨Or.inr rfl, fun v hv => (hW v hv).1, ns_mk_0 (fun e he => (nx_G hN e he).2.1) (fun v hv => (hW v hv).2), fun z => absurd (show (1 : Int32) = 0 from z) (by decide)⟩
      (fun k t ht => br_c (fun q => fin _ _ _ t.2 ht.2.1 ht.2.2.1 (ht.2.2.2 q)) (fun q => br_t (nI_le (Nat.le_refl _) (by omega)) (fin _ _ _ t.2 ht.2.1 ht.2.2.1 (ns_mk_all ht.2.2.1 (Nat.le_refl _)))))
      (fun k i t hi ht ih => br_c (fun q => fin _ _ _ t.2 ht.2.1 ht.2.2.1 (ht.2.2.2 q)) (fun q => br_f (nI_ge hi (by omega)) (wx_grow hN ht.2.1 ht.2.2.1 (fun x W' p1 p2 p3 p4 => nm_r (nI_1 i) (ih (x, W') ⟨p1, p2, p3, p4⟩)))))
  · have e1 : (nI i).toNatClampNeg = i := nI_clamp (by omega)
    have iI : vp_in (nI i) 24 := vp_in_nI (by omega) (by omega)
    have nxt : ∀ x : Int32, (x = 0 ∨ x = 1) → (x = 1 ↔ (aE i).toInt < 0) → ∀ v, v < i + 1 → (upd W i x v = 0 ∨ upd W i x v = 1) ∧ ns_mb (upd W i x) v = decide ((aE v).toInt < 0) := by
      intro x hx hx' v hv
      by_cases q : v = i
      · unfold ns_mb
        rw [q, nu_s]
        exact ⟨hx, decide_eq_decide.mpr hx'⟩
      · have := hW v (by omega)
        unfold ns_mb at this ⊢
        rw [nu_n q]
        exact this
    rw [e1]
    refine br_c (fun q => ⟨iI, nm_r (e' := upd W i 0) (by rw [ni_b0]) (nm_r (nI_1 i) (ih _ (nxt 0 (Or.inl rfl) ⟨fun z => absurd z (by decide), fun z => ?_⟩)))⟩) (fun q => ⟨iI, nm_r (e' := upd W i 1) (by rw [ni_b1]) (nm_r (nI_1 i) (ih _ (nxt 1 (Or.inr rfl) ⟨fun _ => ?_, fun _ => rfl⟩)))⟩)
    · rw [ni_le, ni_0] at q; omega
    · rw [ni_le, ni_0] at q; omega
theorem ns_Cl_e {n m : Nat} {tl hd : Nat → Nat} {cap e f x : Nat → Int} {Z : Nat → Bool} (h : ∀ v, v < n → e v = f v) (hc : ns_Cl n m tl hd cap e x Z) : ns_Cl n m tl hd cap f x Z := by
  obtain ⟨c1, c2, c3, c4⟩ := hc
  exact ⟨fun v hv k => c1 v hv (by rw [h v hv]; exact k), fun v hv k => by rw [← h v hv]; exact c2 v hv k, c3, c4⟩
theorem wx_solve {n m : Nat} {st tc sf : Int32} {aS aT aH aC aK W aF aE aD aP : Nat → Int32} {post : Int32 → SX → Prop} (hN : ns_Net n m aS aT aH aC aK) (h : ∀ (r st tc sf : Int32) (W aF aE aD aP : Nat → Int32), ns_Spec n m aS aT aH aC aK r st tc sf W → post r ((nI n), (nI m), st, tc, sf, aS, aT, aH, aC, aK, W, aF, aE, aD, aP)) : wpX_solve post ((nI n), (nI m), st, tc, sf, aS, aT, aH, aC, aK, W, aF, aE, aD, aP) := by
  have hm := hN.2.2.1
  have hn := hN.2.1
  unfold wpX_solve
  refine wx_reset hn (fun W0 hW0 => wx_sum hN (fun s hs => br_c (fun q => ?_) (fun q => h 3 3 0 0 W0 _ _ _ _ (Or.inl ⟨fun z => q (ni_eq.mpr (by rw [hs, z, ni_0])), rfl, rfl, rfl, rfl, hW0⟩))))
  have z0 : ns_sm (ns_t aS) n = 0 := by rw [← hs, q, ni_0]
  refine wx_start hN (fun F E hI hE => wx_route hN hI ?_ (fun F E D P hI hZ => ?_))
  · have b := ns_P_bd (b := ns_t aS) (x := ns_y0 (ns_t aK) (ns_t aC)) (tl := (ns_n aT)) (hd := (ns_n aH)) (n := n) hN.2.2.2.1 m (fun a ha => (nx_r hN a ha).1) (fun a ha => ns_y0_bd (hN.2.2.2.2.2.1 a ha))
    rw [ns_P_c (e := ns_t E) (f := fun v => ns_exc (ns_t aS) (ns_n aT) (ns_n aH) (ns_y0 (ns_t aK) (ns_t aC)) m v) hE]
    omega
  · obtain ⟨bE, bF⟩ := nx_eb hN hI
    have eE : ns_P (ns_t E) n = ns_P (fun v => ns_exc (ns_t aS) (ns_n aT) (ns_n aH) (ns_t F) m v) n := ns_P_c hI.2.1
    have hFin : ns_Fin n m (ns_n aT) (ns_n aH) (ns_t aS) (ns_t aK) (ns_t aC) (ns_t F) := by
      obtain ⟨Z, hZ⟩ := hZ
      obtain ⟨π, hπ⟩ := hI.2.2
      exact ⟨hI.1, ⟨Z, ns_Cl_e hI.2.1 hZ⟩, π, ns_Pot_x hπ⟩
    refine wx_unr hn bE (fun r hr => br_c (fun q => wx_cost hN bF (fun c hc => h 1 1 c r W0 _ _ _ _ (Or.inr ⟨z0, ns_t F, hFin, by rw [hr, eE], Or.inr ⟨?_, rfl, rfl, hc, hW0⟩⟩))) (fun q => ?_))
    · rw [ni_le, ni_0] at q; exact q
    · have q' : 0 < r.toInt := by rw [ni_le, ni_0] at q; omega
      refine wx_mark hN (fun W1 w1 w2 w3 w4 => h 2 2 0 r W1 _ _ _ _ (Or.inr ⟨z0, ns_t F, hFin, by rw [hr, eE], Or.inl ⟨q', rfl, rfl, rfl, w1, ?_⟩⟩))
      obtain ⟨Z, hZ⟩ := hZ
      have cl := ns_X_cA.mp w4
      refine ⟨ns_Cl_e hI.2.1 ⟨w2, fun v hv k => hZ.2.1 v hv (w3 Z hZ.1 (ns_X_cA.mpr hZ.2.2) v hv k), cl.1, cl.2⟩, fun Z' hZ' => ?_⟩
      have hZ'' := ns_Cl_e (fun v hv => (hI.2.1 v hv).symm) hZ'
      exact w3 Z' hZ''.1 (ns_X_cA.mpr hZ''.2.2)
end
section
/-! 17: the reference's walks: reset, an edge laid, the search, the bottleneck, the push -/
theorem wy_reset {n m : Nat} {st tc sf ec : Int32} {aT aH aC aK aS aJ W F T C K D P Q : Nat → Int32} {post : SY → Prop} (h : ∀ W' : Nat → Int32, (∀ v, v < 24 → W' v = 0) → post ((nI n), (nI m), 0, 0, 0, ec, aT, aH, aC, aK, aS, aJ, W', F, T, C, K, D, P, Q)) : wpY_reset post ((nI n), (nI m), st, tc, sf, ec, aT, aH, aC, aK, aS, aJ, W, F, T, C, K, D, P, Q) := by
  unfold wpY_reset
  exact loop_0 (fun k i W => wY_reset_17 post (nI n) (nI m) 0 0 0 ec k (nI i) aT aH aC aK aS aJ W F T C K D P Q) (fun i W => ∀ v, v < i → W v = 0) 24 W (fun v hv => absurd hv (Nat.not_lt_zero _))
    (fun k W hW => br_t (nI_le (a := 24) (b := 24) (Nat.le_refl _) (by decide)) (h W hW))
    (fun k i W hi hW ih => br_f (nI_ge (b := 24) hi (by decide)) ⟨vp_in_nI (by omega) (by omega), nm_r (e' := upd W i 0) (by rw [nI_clamp (by omega), ni_b0]) (nm_r (nI_1 i) (ih _ (fun v hv => by
      by_cases q : v = i
      · rw [q, nu_s]
      · rw [nu_n q]; exact hW v (by omega))))⟩)
theorem wy_add {n m : Nat} {st tc sf ec : Int32} {aT aH aC aK aS aJ W F T C K D P Q : Nat → Int32} {post : SY → Prop} {j s t : Nat} {x y : Int32} (hj : j < 120)
    (h : post ((nI n), (nI m), st, tc, sf, (nI (2 * (j + 1))), aT, aH, aC, aK, aS, aJ, W, (ns_u2 F j (nI s) (nI t)), (ns_u2 T j (nI t) (nI s)), (ns_u2 C j x 0), (ns_u2 K j y (-y)), D, P, Q)) : wpY_addEdge post ((nI n), (nI m), st, tc, sf, (nI (2 * j)), aT, aH, aC, aK, aS, aJ, W, F, T, C, K, D, P, Q) (nI s) (nI t) x y := by
  have e1 : (nI (2 * j)).toNatClampNeg = 2 * j := nI_clamp (by omega)
  have e2 : (nI (2 * j + 1)).toNatClampNeg = 2 * j + 1 := nI_clamp (by omega)
  have i1 : vp_in (nI (2 * j)) 240 := vp_in_nI (by omega) (by omega)
  have i2 : vp_in (nI (2 * j + 1)) 240 := vp_in_nI (by omega) (by omega)
  refine br_t (nI_le (b := 238) (by omega) (by decide)) ⟨i1, nm_r (e' := upd F (2 * j) (nI s)) (by rw [e1]) ⟨i1, nm_r (e' := upd T (2 * j) (nI t)) (by rw [e1]) ⟨i1, nm_r (e' := upd C (2 * j) x) (by rw [e1]) ⟨i1, nm_r (e' := upd K (2 * j) y) (by rw [e1])
    (nm_r (nI_1 (2 * j)) ⟨i2, nm_r (e' := ns_u2 F j (nI s) (nI t)) (by rw [e2]; rfl) ⟨i2, nm_r (e' := ns_u2 T j (nI t) (nI s)) (by rw [e2]; rfl) ⟨i2, nm_r (e' := ns_u2 C j x 0) (by rw [e2]; rfl) ⟨i2, nm_r (e' := ns_u2 K j y (-y)) (by rw [e2]; rfl)
      (nm_r (nI_1 (2 * j + 1)) h)⟩⟩⟩⟩)⟩⟩⟩⟩
def ny_src (n v : Nat) : Bool := decide (v = n)
theorem wy_190 {n m : Nat} {st tc sf ec : Int32} {aT aH aC aK aS aJ W F T C K D P Q : Nat → Int32} {post : Int32 → SY → Prop} (hn : n ≤ 24) (h0 : D (n + 1) = 1000000000 → post 0 ((nI n), (nI m), st, tc, sf, ec, aT, aH, aC, aK, aS, aJ, W, F, T, C, K, D, P, Q)) (h1 : ¬ D (n + 1) = 1000000000 → post 1 ((nI n), (nI m), st, tc, sf, ec, aT, aH, aC, aK, aS, aJ, W, F, T, C, K, D, P, Q)) : wY_shortest_190 post (nI (n + 1)) (nI n) (nI m) st tc sf ec aT aH aC aK aS aJ W F T C K D P Q := by
  have e1 : (nI (n + 1)).toNatClampNeg = n + 1 := nI_clamp (by omega)
  refine ⟨vp_in_nI (by omega) (by omega), br_c (fun q => h0 ?_) (fun q => h1 ?_)⟩
  · rw [e1] at q; exact q
  · rw [e1] at q; exact q
theorem wy_short {n m : Nat} {st tc sf ec : Int32} {aT aH aC aK aS aJ W F T C K D P Q : Nat → Int32} {post : Int32 → SY → Prop} {H : Nat} {π : Nat → Int} (hn : n ≤ 24) (hH : H ≤ 120) (hec : ec = nI (2 * H)) (hG : ns_G (n + 2) H (ns_n F) (ns_n T) (ns_t K)) (hE : ∀ e, e < 2 * H → F e = nI (ns_n F e) ∧ T e = nI (ns_n T e)) (hP : ns_Pot H (ns_n F) (ns_n T) (ns_t K) (ns_t C) π)
    (h : ∀ D P : Nat → Int32, ns_B (n + 2) H (ns_n F) (ns_n T) (ns_t K) (ns_t C) 1000000000 (ny_src n) 400000 (ns_t D) (ns_yp P) → ns_C H (ns_n F) (ns_n T) (ns_t K) (ns_t C) 1000000000 (2 * H) (ns_t D) →
      (D (n + 1) = 1000000000 → post 0 ((nI n), (nI m), st, tc, sf, ec, aT, aH, aC, aK, aS, aJ, W, F, T, C, K, D, P, Q)) ∧ (¬ D (n + 1) = 1000000000 → post 1 ((nI n), (nI m), st, tc, sf, ec, aT, aH, aC, aK, aS, aJ, W, F, T, C, K, D, P, Q))) : wpY_shortest post ((nI n), (nI m), st, tc, sf, ec, aT, aH, aC, aK, aS, aJ, W, F, T, C, K, D, P, Q) (nI n) (nI (n + 1)) := by
  have in_n : vp_in (nI n) 26 := vp_in_nI (by omega) (by omega)
  have en : (nI n).toNatClampNeg = n := nI_clamp (by omega)
  refine nm_r (e' := nI (n + 2)) (nI_add n 2) ?_
  refine loop_0 (fun k i (s : (Nat → Int32) × (Nat → Int32)) => wY_shortest_10 post (nI n) (nI (n + 1)) (nI (n + 2)) (nI n) (nI m) st tc sf ec k (nI i) aT aH aC aK aS aJ W F T C K s.1 s.2 Q) (fun i s => ∀ v, v < i → s.1 v = 1000000000 ∧ s.2 v = -1) 26 (D, P) (fun v hv => absurd hv (Nat.not_lt_zero _))
    (fun k s hs => br_t (nI_le (a := 26) (b := 26) (Nat.le_refl _) (by decide)) ⟨in_n, nm_r (e' := upd s.1 n 0) (by rw [en]) ?_⟩)
    (fun k i s hi hs ih => br_f (nI_ge (b := 26) hi (by decide)) ⟨vp_in_nI (by omega) (by omega), nm_r (e' := upd s.1 i 1000000000) (by rw [nI_clamp (by omega)]) ⟨vp_in_nI (by omega) (by omega), nm_r (e' := upd s.2 i (-1)) (by rw [nI_clamp (by omega)]) (nm_r (nI_1 i) (ih (_, _) (fun v hv => ?_)))⟩⟩)
  · have K0 : ns_K (n + 2) H (ns_n F) (ns_n T) (ns_t K) (ns_t C) π 1000000000 (ny_src n) 0 true (ns_t (upd s.1 n 0)) (ns_yp s.2) := by
      refine ns_K_0 (by decide) (fun v hv k => ?_) (fun v hv k => ?_) (fun v hv => ?_)
      · have k : v = n := of_decide_eq_true k
        show (upd s.1 n 0 v).toInt = 0
        rw [k, nu_s, ni_0]
      · have k : ¬ v = n := fun z => k (decide_eq_true z)
        show (upd s.1 n 0 v).toInt = 1000000000
        rw [nu_n k, (hs v (by omega)).1, ni_I]
      · unfold ns_yp
        rw [(hs v (by omega)).2, if_pos (by decide)]
    have fin : ∀ (r : Nat) (g : Bool) (D P : Nat → Int32), r ≤ n + 2 → ns_K (n + 2) H (ns_n F) (ns_n T) (ns_t K) (ns_t C) π 1000000000 (ny_src n) r g (ns_t D) (ns_yp P) → (g = false ∨ r = n + 2) → wY_shortest_190 post (nI (n + 1)) (nI n) (nI m) st tc sf ec aT aH aC aK aS aJ W F T C K D P Q := by
      intro r g D P hr hK he
      have q := h D P (ns_B_mono hK.1 (by omega)) (ns_K_C hG hK he)
      exact wy_190 hn q.1 q.2
    refine loop_0 (fun k i (s : (Nat → Int32) × (Nat → Int32)) => wY_shortest_50 post (nI (n + 1)) (nI (n + 2)) (nI n) (nI m) st tc sf ec k (nI i) aT aH aC aK aS aJ W F T C K s.1 s.2 Q)
      (fun i s => ns_K (n + 2) H (ns_n F) (ns_n T) (ns_t K) (ns_t C) π 1000000000 (ny_src n) i true (ns_t s.1) (ns_yp s.2)) (n + 2) (upd s.1 n 0, s.2) K0
      (fun k t ht => br_t (nI_le (Nat.le_refl _) (by omega)) (fin (n + 2) true t.1 t.2 (Nat.le_refl _) ht (Or.inr rfl))) (fun k r t hr ht ih => br_f (nI_ge hr (by omega)) ?_)
    obtain ⟨l, w, c, hl, hw, hJ⟩ := ns_K_J ht hr
    refine loop_0 (fun j i (u : Int32 × (Nat → Int32) × (Nat → Int32)) => wY_shortest_62 post (wY_shortest_50 post (nI (n + 1)) (nI (n + 2)) (nI n) (nI m) st tc sf ec k) (nI (n + 1)) (nI (n + 2)) (nI r) (nI n) (nI m) st tc sf ec j u.1 (nI i) aT aH aC aK aS aJ W F T C K u.2.1 u.2.2 Q)
      (fun i u => (u.1 = 0 ∨ u.1 = 1) ∧ ns_J (n + 2) H (ns_n F) (ns_n T) (ns_t K) (ns_t C) π 1000000000 (ny_src n) (12000 * r) l w c i (decide (u.1 = 1)) (ns_t u.2.1) (ns_yp u.2.2)) (2 * H) (0, t.1, t.2) ⟨Or.inl rfl, hJ⟩
      (fun j u hu => br_t (by rw [hec]; exact nI_le (Nat.le_refl _) (by omega)) (br_c (fun q => ?_) (fun q => nm_r (nI_1 r) (ih (u.2.1, u.2.2) ?_))))
      (fun j i u hi hu ih2 => br_f (by rw [hec]; exact nI_ge hi (by omega)) ?_)
    · have K1 := ns_J_K hu.2 hH hl hw
      exact fin (r + 1) _ u.2.1 u.2.2 (by omega) K1 (Or.inl (decide_eq_false (by rw [q]; decide)))
    · have u1 : u.1 = 1 := by
        rcases hu.1 with z | z
        · exact absurd z q
        · exact z
      have K1 := ns_J_K hu.2 hH hl hw
      rw [decide_eq_true u1] at K1
      exact K1
    · obtain ⟨u1, u2⟩ := hu
      obtain ⟨f1, f2⟩ := hE i hi
      obtain ⟨g1, g2, g3, g4, g5, g6, g7, g8⟩ := hG i hi
      have e := ny_e hG hi hH (by omega) (by omega) hP u2
      have iI : vp_in (nI i) 240 := vp_in_nI (by omega) (by omega)
      have iF : vp_in (nI (ns_n F i)) 26 := vp_in_nI (by omega) (by omega)
      have iT : vp_in (nI (ns_n T i)) 26 := vp_in_nI (by omega) (by omega)
      have ei : (nI i).toNatClampNeg = i := nI_clamp (by omega)
      refine ⟨iI, nm_r (e' := nI (ns_n F i)) (by rw [ei]; exact f1) ⟨iI, nm_r (e' := nI (ns_n T i)) (by rw [ei]; exact f2) ⟨iI, ?_⟩⟩⟩
      rw [ei, nI_clamp (show ns_n F i < 2 ^ 31 by omega), nI_clamp (show ns_n T i < 2 ^ 31 by omega)]
      exact br_c (fun q => nm_r (nI_1 i) (ih2 (u.1, u.2.1, u.2.2) ⟨u1, e.1 (Or.inl q)⟩)) (fun q => ⟨iF, br_c (fun y => nm_r (nI_1 i) (ih2 (u.1, u.2.1, u.2.2) ⟨u1, e.1 (Or.inr (Or.inl y))⟩)) (fun y => ⟨iF, iI, iT,
        br_c (fun z => nm_r (nI_1 i) (ih2 (u.1, u.2.1, u.2.2) ⟨u1, e.1 (Or.inr (Or.inr z))⟩)) (fun z => ⟨iF, iI, iT, nm_e ⟨iT, nm_e (nm_r (nI_1 i) (ih2 (1, _, _) ⟨Or.inr rfl, e.2 q y z⟩))⟩⟩)⟩)⟩)
  · show upd s.1 i 1000000000 v = 1000000000 ∧ upd s.2 i (-1) v = -1
    by_cases q : v = i
    · rw [q, nu_s, nu_s]; exact ⟨rfl, rfl⟩
    · rw [nu_n q, nu_n q]; exact hs v (by omega)
/-- along the path, by the parents -/
theorem wy_bot {n m : Nat} {st tc sf ec : Int32} {aT aH aC aK aS aJ W F T C K D P Q : Nat → Int32} {post : Int32 → Prop} {H : Nat} {d : Nat → Int} {U hi : Int} {ρ : Nat → Nat} (hn : n ≤ 24) (hH : H ≤ 120) (hG : ns_G (n + 2) H (ns_n F) (ns_n T) (ns_t K)) (hE : ∀ e, e < 2 * H → F e = nI (ns_n F e) ∧ T e = nI (ns_n T e))
    (hB : ns_B (n + 2) H (ns_n F) (ns_n T) (ns_t K) (ns_t C) U (ny_src n) hi d (ns_yp P)) (hρ : ∀ v, v < n + 2 → ∀ e, ns_yp P v = some e → ρ (ns_n F e) < ρ v) :
    ∀ (es : List Nat) (v i : Nat) (a : Int32), ns_path (ns_n F) (ns_yp P) n v es → v < n + 2 → i + es.length < n + 2 → 0 < a.toInt →
      (∀ a' : Int32, 0 < a'.toInt → a'.toInt ≤ a.toInt → (∀ e, e ∈ es → a'.toInt ≤ ns_t C e) → post a') → wY_bottleneck_9 post (nI n) (nI n) (nI m) st tc sf ec aT aH aC aK aS aJ W F T C K D P Q (es.length + 1) a (nI v) (nI i) := by
  intro es
  induction es with
  | nil =>
    intro v i a hp hv hi ha h
    exact br_f (nI_ge (b := 26) (show i < 26 by simp at hi; omega) (by decide)) (br_t (by rw [hp.1]) (br_t (by rw [hp.1]) (h a ha (Int.le_refl _) (fun e he => by simp at he))))
  | cons e es ih =>
    intro v i a hp hv hi ha h
    simp only [List.length_cons] at hi
    have hne : v ≠ n := by
      have := (ns_path_tt hG hB hρ (e :: es) v hv hp).2.2 (by simp)
      intro z; rw [z] at this; omega
    obtain ⟨b1, b2, b3, b4, b5, b6⟩ := hB.2.1 v hv e hp.1
    obtain ⟨p1, p2⟩ := ny_some hp.1
    have ev : (nI v).toNatClampNeg = v := nI_clamp (by omega)
    have ee : (nI e).toNatClampNeg = e := nI_clamp (by omega)
    have iE : vp_in (nI e) 240 := vp_in_nI (by omega) (by omega)
    have go : ∀ a' : Int32, 0 < a'.toInt → a'.toInt ≤ a.toInt → a'.toInt ≤ ns_t C e → wY_bottleneck_9 post (nI n) (nI n) (nI m) st tc sf ec aT aH aC aK aS aJ W F T C K D P Q (es.length + 1) a' (nI (ns_n F e)) (nI (i + 1)) := by
      intro a' q1 q2 q3
      refine ih (ns_n F e) (i + 1) a' hp.2 (hG e b1).1 (by omega) q1 (fun a'' r1 r2 r3 => h a'' r1 (by omega) (fun f hf => ?_))
      rcases List.mem_cons.mp hf with z | z
      · rw [z]; omega
      · exact r3 f z
    refine br_f (nI_ge (b := 26) (show i < 26 by omega) (by decide)) (br_f (fun z => hne ((nI_eq (by omega) (by omega)).mp z)) ⟨vp_in_nI (by omega) (by omega), nm_r (e' := nI e) (by rw [ev]; exact p2) (br_t (nI_pos' (by omega)) ⟨iE, ?_⟩)⟩)
    rw [ee]
    refine br_c (fun q => ⟨iE, nm_r (e' := nI (ns_n F e)) (hE e b1).1 (nm_r (nI_1 i) (go a ha (Int.le_refl _) ?_))⟩) (fun q => ⟨iE, nm_e ⟨iE, nm_r (e' := nI (ns_n F e)) (hE e b1).1 (nm_r (nI_1 i) (go (C e) b2 ?_ (Int.le_refl _)))⟩⟩)
    · rw [ni_le] at q; exact q
    · rw [ni_le] at q; omega
theorem wy_push {n m : Nat} {st tc sf ec : Int32} {aT aH aC aK aS aJ W F T C K D P Q : Nat → Int32} {post : SY → Prop} {H : Nat} {rc d : Nat → Int} {U hi : Int} {ρ : Nat → Nat} {a : Int32} (hn : n ≤ 24) (hH : H ≤ 120) (hG : ns_G (n + 2) H (ns_n F) (ns_n T) (ns_t K)) (hE : ∀ e, e < 2 * H → F e = nI (ns_n F e) ∧ T e = nI (ns_n T e))
    (hB : ns_B (n + 2) H (ns_n F) (ns_n T) (ns_t K) rc U (ny_src n) hi d (ns_yp P)) (hρ : ∀ v, v < n + 2 → ∀ e, ns_yp P v = some e → ρ (ns_n F e) < ρ v) (ha : 0 ≤ a.toInt ∧ a.toInt ≤ 3000) :
    ∀ (es : List Nat) (v i : Nat) (C : Nat → Int32) (B : Int), ns_path (ns_n F) (ns_yp P) n v es → v < n + 2 → i + es.length < n + 2 → (∀ k, k < 2 * H → -B ≤ (C k).toInt ∧ (C k).toInt ≤ B) → B + 3000 * es.length ≤ 1000000 →
      (∀ C' : Nat → Int32, ns_t C' = ns_pu a.toInt es (ns_t C) → post ((nI n), (nI m), st, tc, sf, ec, aT, aH, aC, aK, aS, aJ, W, F, T, C', K, D, P, Q)) → wY_push_6 post (nI n) a (nI n) (nI m) st tc sf ec (es.length + 1) (nI v) (nI i) aT aH aC aK aS aJ W F T C K D P Q := by
  intro es
  induction es with
  | nil =>
    intro v i C B hp hv hi hC hb h
    exact br_f (nI_ge (b := 26) (show i < 26 by simp at hi; omega) (by decide)) (br_t (by rw [hp.1]) (h C rfl))
  | cons e es ih =>
    intro v i C B hp hv hi hC hb h
    simp only [List.length_cons] at hi hb
    have hne : v ≠ n := by
      have := (ns_path_tt hG hB hρ (e :: es) v hv hp).2.2 (by simp)
      intro z; rw [z] at this; omega
    obtain ⟨b1, b2, b3, b4, b5, b6⟩ := hB.2.1 v hv e hp.1
    obtain ⟨p1, p2⟩ := ny_some hp.1
    have bf := ns_fl_lt b1
    have ev : (nI v).toNatClampNeg = v := nI_clamp (by omega)
    have ee : (nI e).toNatClampNeg = e := nI_clamp (by omega)
    have ef : (nI (ns_fl e)).toNatClampNeg = ns_fl e := nI_clamp (by omega)
    have iE : vp_in (nI e) 240 := vp_in_nI (by omega) (by omega)
    have iF : vp_in (nI (ns_fl e)) 240 := vp_in_nI (by omega) (by omega)
    have c1 := hC e b1
    have c2 := hC (ns_fl e) bf
    have st := ns_p1_y C e a (by omega) (by omega) (by omega)
    refine br_f (nI_ge (b := 26) (show i < 26 by omega) (by decide)) (br_f (fun z => hne ((nI_eq (by omega) (by omega)).mp z)) ⟨vp_in_nI (by omega) (by omega), nm_r (e' := nI e) (by rw [ev]; exact p2) (br_t (nI_pos' (by omega)) ?_)⟩)
    rw [ns_xor e (by omega)]
    refine ⟨iE, iE, nm_r (e' := upd C e (C e - a)) (by rw [ee]) ⟨iF, iF, nm_r (e' := upd (upd C e (C e - a)) (ns_fl e) (upd C e (C e - a) (ns_fl e) + a)) (by rw [ef]) ⟨iE, nm_r (e' := nI (ns_n F e)) (by rw [ee]; exact (hE e b1).1) (nm_r (nI_1 i)
      (ih (ns_n F e) (i + 1) _ (B + 3000) hp.2 (hG e b1).1 (by omega) (fun k hk => ?_) (by omega) (fun C' hC' => h C' ?_)))⟩⟩⟩
    · have c3 := hC k hk
      have q : (upd (upd C e (C e - a)) (ns_fl e) (upd C e (C e - a) (ns_fl e) + a) k).toInt = ns_p1 a.toInt e (ns_t C) k := congrFun st k
      rw [q]
      by_cases z : k = e
      · rw [z, ns_p1_e]
        show -(B + 3000) ≤ (C e).toInt - a.toInt ∧ (C e).toInt - a.toInt ≤ B + 3000
        omega
      · by_cases z' : k = ns_fl e
        · rw [z', ns_p1_f]
          show -(B + 3000) ≤ (C (ns_fl e)).toInt + a.toInt ∧ (C (ns_fl e)).toInt + a.toInt ≤ B + 3000
          omega
        · rw [ns_p1_n _ _ z z']
          show -(B + 3000) ≤ (C k).toInt ∧ (C k).toInt ≤ B + 3000
          omega
    · rw [hC', st]; rfl
end
section
/-! 18: the reference's walks: its witness, its end, its pushes -/
theorem ni_bz {x : Int32} (h : x = 0 ∨ x = 1) : vp_nar .boolean x = x := by
  rcases h with h | h
  · rw [h]; exact ni_b0
  · rw [h]; exact ni_b1
theorem ny_m {V H : Nat} {F T C K Q : Nat → Int32} {ini : Nat → Bool} {r e : Nat} {g : Bool} (hG : ns_G V H (ns_n F) (ns_n T) (ns_t K)) (he : e < 2 * H) (h1 : ns_01 V Q) (h : ns_mk V H (ns_n F) (ns_n T) (ns_t C) ini r e g (ns_mb Q)) :
    ((C e ≤ 0 ∨ Q (ns_n T e) = 0) → ∃ g', ns_mk V H (ns_n F) (ns_n T) (ns_t C) ini r (e + 1) g' (ns_mb Q)) ∧
    (¬ C e ≤ 0 → ¬ Q (ns_n T e) = 0 → ∃ g', ns_mk V H (ns_n F) (ns_n T) (ns_t C) ini r (e + 1) g' (ns_mb (upd Q (ns_n F e) 1))) := by
  obtain ⟨g1, g2, g3, g4, g5, g6, g7, g8⟩ := hG e he
  have bT := ns_mb_0 (h1 _ g2)
  refine ⟨fun q => ⟨g, ns_mk_no h (fun z y => ?_)⟩, fun q1 q2 => ?_⟩
  · rcases q with q | q
    · rw [ni_le, ni_0] at q
      have z : 0 < (C e).toInt := z
      omega
    · exact absurd q (bT.mp y)
  · rw [ni_le, ni_0] at q1
    by_cases z : ns_mb Q (ns_n F e) = true
    · refine ⟨g, ?_⟩
      have eq : ns_mb (upd Q (ns_n F e) 1) = ns_mb Q := by
        rw [ns_mb_u]
        funext v
        by_cases w : v = ns_n F e
        · rw [w, ns_us, z]
        · rw [ns_un w]
      rw [eq]
      exact ns_mk_no h (fun _ _ => z)
    · refine ⟨true, ?_⟩
      rw [ns_mb_u]
      exact ns_mk_upd g1 g2 h he (by show 0 < (C e).toInt; omega) (bT.mpr q2) z
theorem wy_mark {n m : Nat} {st tc sf ec : Int32} {aT aH aC aK aS aJ W F T C K D P Q : Nat → Int32} {post : SY → Prop} {H : Nat} (hn : n ≤ 24) (hH : H ≤ 120) (hec : ec = nI (2 * H)) (hG : ns_G (n + 2) H (ns_n F) (ns_n T) (ns_t K)) (hE : ∀ e, e < 2 * H → F e = nI (ns_n F e) ∧ T e = nI (ns_n T e))
    (h : ∀ W Q : Nat → Int32, (∀ v, v < n → W v = Q v) → ns_01 (n + 2) Q → ns_mb Q (n + 1) = true →
      (∀ Z : Nat → Bool, Z (n + 1) = true → ns_cA H (ns_n F) (ns_n T) (ns_t C) (2 * H) Z → ∀ v, v < n + 2 → ns_mb Q v = true → Z v = true) → ns_cA H (ns_n F) (ns_n T) (ns_t C) (2 * H) (ns_mb Q) → post ((nI n), (nI m), st, tc, sf, ec, aT, aH, aC, aK, aS, aJ, W, F, T, C, K, D, P, Q)) : wpY_markWitness post ((nI n), (nI m), st, tc, sf, ec, aT, aH, aC, aK, aS, aJ, W, F, T, C, K, D, P, Q) (nI (n + 1)) := by
  have en : (nI (n + 1)).toNatClampNeg = n + 1 := nI_clamp (by omega)
  unfold wpY_markWitness
  refine loop_0 (fun k i Q => wY_markWitness_2 post (nI (n + 1)) (nI n) (nI m) st tc sf ec k (nI i) aT aH aC aK aS aJ W F T C K D P Q) (fun i Q => ∀ v, v < i → Q v = 0) 26 Q (fun v hv => absurd hv (Nat.not_lt_zero _))
    (fun k Q hQ => br_t (nI_le (a := 26) (b := 26) (Nat.le_refl _) (by decide)) ⟨vp_in_nI (by omega) (by omega), nm_r (e' := upd Q (n + 1) 1) (by rw [en, ni_b1]) ?_⟩)
    (fun k i Q hi hQ ih => br_f (nI_ge (b := 26) hi (by decide)) ⟨vp_in_nI (by omega) (by omega), nm_r (e' := upd Q i 0) (by rw [nI_clamp (by omega), ni_b0]) (nm_r (nI_1 i) (ih _ (fun v hv => by
      by_cases q : v = i
      · rw [q, nu_s]
      · rw [nu_n q]; exact hQ v (by omega))))⟩)
  have q0 : ns_01 (n + 2) (upd Q (n + 1) 1) := ns_01_u (fun v hv => Or.inl (hQ v (by omega))) _ 1 (Or.inr rfl)
  have m0 : ns_mk (n + 2) H (ns_n F) (ns_n T) (ns_t C) (fun v => decide (v = n + 1)) 0 0 false (ns_mb (upd Q (n + 1) 1)) := by
    refine ns_mk_0 (fun e he => (hG e he).2.1) (fun v hv => ?_)
    unfold ns_mb
    by_cases q : v = n + 1
    · rw [q, nu_s, decide_eq_true rfl, decide_eq_true rfl]
    · rw [nu_n q, hQ v (by omega), decide_eq_false (by decide), decide_eq_false q]
  refine loop_0 (fun k i Q => wY_markWitness_30 post (nI n) (nI m) st tc sf ec k (nI i) aT aH aC aK aS aJ W F T C K D P Q) (fun i Q => ns_01 (n + 2) Q ∧ ns_mk (n + 2) H (ns_n F) (ns_n T) (ns_t C) (fun v => decide (v = n + 1)) i 0 false (ns_mb Q)) 26 _ ⟨q0, m0⟩
    (fun k Q hQ => br_t (nI_le (a := 26) (b := 26) (Nat.le_refl _) (by decide)) ?_) (fun k r Q hr hQ ih => br_f (nI_ge (b := 26) hr (by decide)) ?_)
  · obtain ⟨h1, h2⟩ := hQ
    refine loop_0 (fun k i W => wY_markWitness_95 post (nI n) (nI m) st tc sf ec k (nI i) aT aH aC aK aS aJ W F T C K D P Q) (fun i W => ∀ v, v < i → W v = Q v) n W (fun v hv => absurd hv (Nat.not_lt_zero _))
      (fun k W hW => br_t (nI_le (Nat.le_refl _) (by omega)) (h W Q hW h1 (h2.1 (n + 1) (by omega) (decide_eq_true rfl)) (fun Z hZ => h2.2.1 Z (fun v hv k => by rw [of_decide_eq_true k]; exact hZ)) (ns_mk_all h2 (by omega))))
      (fun k i W hi hW ih => br_f (nI_ge hi (by omega)) ⟨vp_in_nI (by omega) (by omega), vp_in_nI (by omega) (by omega), nm_r (e' := upd W i (Q i)) (by rw [nI_clamp (by omega), ni_bz (h1 i (by omega))]) (nm_r (nI_1 i) (ih _ (fun v hv => by
        by_cases q : v = i
        · rw [q, nu_s]
        · rw [nu_n q]; exact hW v (by omega))))⟩)
  · obtain ⟨h1, h2⟩ := hQ
    refine loop_0 (fun j i Q => wY_markWitness_38 post (wY_markWitness_30 post (nI n) (nI m) st tc sf ec k) (nI r) (nI n) (nI m) st tc sf ec j (nI i) aT aH aC aK aS aJ W F T C K D P Q) (fun i Q => ns_01 (n + 2) Q ∧ ∃ g, ns_mk (n + 2) H (ns_n F) (ns_n T) (ns_t C) (fun v => decide (v = n + 1)) r i g (ns_mb Q)) (2 * H) Q ⟨h1, false, h2⟩
      (fun j Q hQ => br_t (by rw [hec]; exact nI_le (Nat.le_refl _) (by omega)) (nm_r (nI_1 r) (ih Q ⟨hQ.1, by obtain ⟨g, hg⟩ := hQ.2; exact (ns_mk_end hg).1⟩)))
      (fun j i Q hi hQ ih2 => br_f (by rw [hec]; exact nI_ge hi (by omega)) ⟨vp_in_nI (by omega) (by omega), ?_⟩)
    obtain ⟨q1, g, hg⟩ := hQ
    obtain ⟨f1, f2⟩ := hE i hi
    obtain ⟨g1, g2, g3, g4, g5, g6, g7, g8⟩ := hG i hi
    have e := ny_m hG hi q1 hg
    have iI : vp_in (nI i) 240 := vp_in_nI (by omega) (by omega)
    have ei : (nI i).toNatClampNeg = i := nI_clamp (by omega)
    have iF : vp_in (F i) 26 := by rw [f1]; exact vp_in_nI (by omega) (by omega)
    have iT : vp_in (T i) 26 := by rw [f2]; exact vp_in_nI (by omega) (by omega)
    rw [ei]
    exact br_c (fun q => nm_r (nI_1 i) (ih2 Q ⟨q1, e.1 (Or.inl q)⟩)) (fun q => ⟨iI, iT, br_c (fun y => nm_r (nI_1 i) (ih2 Q ⟨q1, e.1 (Or.inr y)⟩)) (fun y => ⟨iI, iF, nm_r (e' := upd Q (ns_n F i) 1) (by rw [ni_b1]; rfl) (nm_r (nI_1 i) (ih2 _ ⟨ns_01_u q1 _ 1 (Or.inr rfl), e.2 q y⟩))⟩)⟩)
theorem ns_Cl_z {n m : Nat} {tl hd : Nat → Nat} {cap e x : Nat → Int} {Z Z' : Nat → Bool} (hr : ∀ a, a < m → hd a < n ∧ tl a < n) (h : ∀ v, v < n → Z' v = Z v) (hc : ns_Cl n m tl hd cap e x Z) : ns_Cl n m tl hd cap e x Z' := by
  obtain ⟨c1, c2, c3, c4⟩ := hc
  refine ⟨fun v hv k => by rw [h v hv]; exact c1 v hv k, fun v hv k => c2 v hv (by rw [← h v hv]; exact k), fun a ha k w => ?_, fun a ha k w => ?_⟩
  · rw [h _ (hr a ha).1] at w
    rw [h _ (hr a ha).2]
    exact c3 a ha k w
  · rw [h _ (hr a ha).2] at w
    rw [h _ (hr a ha).1]
    exact c4 a ha k w
/-- what stands while the reference pushes: the network laid, x2 its first cost, x5 its need -/
def ny_S (n m : Nat) (aS aT aH aC aK aJ F T K : Nat → Int32) (x2 x5 : Int32) : Prop :=
  ns_Net n m aS aT aH aC aK ∧ ns_sm (ns_t aS) n = 0 ∧ (∀ v, v < n → ns_t aJ v = ns_exc (ns_t aS) (ns_n aT) (ns_n aH) (ns_y0 (ns_t aK) (ns_t aC)) m v) ∧
  (∀ e, e < 2 * (m + ns_cnt (ns_t aJ) n) → F e = nI (ns_n F e) ∧ T e = nI (ns_n T e)) ∧ ns_YE n m (ns_n aT) (ns_n aH) (ns_t aK) (ns_t aJ) (ns_n F) (ns_n T) (ns_t K) ∧
  x2.toInt = ns_sm (fun a => ns_t aK a * ns_y0 (ns_t aK) (ns_t aC) a) m ∧ x5.toInt = ns_P (ns_t aJ) n
theorem ny_G {n m : Nat} {aS aT aH aC aK aJ F T K : Nat → Int32} {x2 x5 : Int32} (h : ny_S n m aS aT aH aC aK aJ F T K x2 x5) : ns_G (n + 2) (m + ns_cnt (ns_t aJ) n) (ns_n F) (ns_n T) (ns_t K) :=
  ns_y_G (nx_r h.1) (fun a ha => (h.1.2.2.2.2.1 a ha).2.2.2.2) (fun a ha => h.1.2.2.2.2.2.2 a ha) h.2.2.2.2.1
theorem ny_H {n m : Nat} {aS aT aH aC aK aJ F T K : Nat → Int32} {x2 x5 : Int32} (h : ny_S n m aS aT aH aC aK aJ F T K x2 x5) : m + ns_cnt (ns_t aJ) n ≤ 120 := by
  have := ns_cnt_le (ns_t aJ) n
  have := h.1.2.1
  have := h.1.2.2.1
  omega
theorem ny_P {n m : Nat} {aS aT aH aC aK aJ F T K : Nat → Int32} {x2 x5 : Int32} (h : ny_S n m aS aT aH aC aK aJ F T K x2 x5) : ns_P (ns_t aJ) n ≤ 3000 := by
  have hN := h.1
  have hm := hN.2.2.1
  have hn := hN.2.1
  have b := ns_P_bd (b := ns_t aS) (x := ns_y0 (ns_t aK) (ns_t aC)) (tl := (ns_n aT)) (hd := (ns_n aH)) (n := n) hN.2.2.2.1 m (fun a ha => (nx_r hN a ha).1) (fun a ha => ns_y0_bd (hN.2.2.2.2.2.1 a ha))
  rw [ns_P_c (e := ns_t aJ) (f := fun v => ns_exc (ns_t aS) (ns_n aT) (ns_n aH) (ns_y0 (ns_t aK) (ns_t aC)) m v) h.2.2.1]
  omega
/-- numbers of a state between two pushes -/
theorem ny_num {n m : Nat} {aS aT aH aC aK aJ F T K : Nat → Int32} {rc : Nat → Int} {x2 x5 : Int32} {f q : Int} (h : ny_S n m aS aT aH aC aK aJ F T K x2 x5) (hI : ns_YI n m (ns_t aC) (ns_t aJ) (ns_n F) (ns_n T) (ns_t K) rc f q) :
    f ≤ 3000 ∧ -192000 ≤ q ∧ q ≤ 192000 ∧ -96000 ≤ x2.toInt ∧ x2.toInt ≤ 96000 ∧ -96000 ≤ x2.toInt + q ∧ x2.toInt + q ≤ 96000 ∧ (∀ e, e < 2 * (m + ns_cnt (ns_t aJ) n) → 0 ≤ rc e ∧ rc e ≤ 2000) := by
  have hN := h.1
  have hm := hN.2.2.1
  have hn := hN.2.1
  obtain ⟨f1, f2, f3, f4⟩ := ns_YI_flow (nx_r hN) h.2.2.2.2.1 h.2.2.1 hI
  have p0 := ns_P_nn (fun v => ns_exc (ns_t aS) (ns_n aT) (ns_n aH) (ns_yy (ns_t aK) (ns_t aC) rc) m v) n
  have p1 := ny_P h
  have s1 := ns_sm_bd (f := fun a => ns_t aK a * ns_y0 (ns_t aK) (ns_t aC) a) (B := 1000) m (fun a ha => ns_cx_bd (hN.2.2.2.2.2.2 a ha) (ns_y0_bd (hN.2.2.2.2.2.1 a ha)))
  have s2 := ns_sm_bd (f := fun a => ns_t aK a * ns_yy (ns_t aK) (ns_t aC) rc a) (B := 1000) m (fun a ha => ns_cx_bd (hN.2.2.2.2.2.2 a ha) (by
    have a1 := f1 a ha
    have a2 := hN.2.2.2.2.2.1 a ha
    have a1 : 0 ≤ ns_yy (ns_t aK) (ns_t aC) rc a ∧ ns_yy (ns_t aK) (ns_t aC) rc a ≤ (aC a).toInt := a1
    omega))
  have s3 := h.2.2.2.2.2.1
  refine ⟨by omega, by omega, by omega, by omega, by omega, by omega, by omega, ?_⟩
  obtain ⟨i1, i2, i3, _⟩ := hI
  have pr : ∀ j, j < m + ns_cnt (ns_t aJ) n → rc (2 * j) + rc (2 * j + 1) ≤ 2000 := by
    intro j hj
    rcases ns_cnt_in n j hj with k | ⟨u, hu, hz, k⟩
    · have a1 := i2 j k
      have a2 := hN.2.2.2.2.2.1 j k
      have a1 : rc (2 * j) + rc (2 * j + 1) = (aC j).toInt := a1
      omega
    · rw [k]
      have b := ns_exc_bd (b := ns_t aS) (x := ns_y0 (ns_t aK) (ns_t aC)) (tl := (ns_n aT)) (hd := (ns_n aH)) (m := m) (v := u) (hN.2.2.2.1 u hu) (fun a ha => by have := ns_y0_bd (c := ns_t aK) (cap := ns_t aC) (a := a) (hN.2.2.2.2.2.1 a ha); omega)
      rw [← h.2.2.1 u hu] at b
      by_cases w : 0 < ns_t aJ u
      · have := (i3 u hu).1 w
        omega
      · have := (i3 u hu).2 (by omega)
        omega
  intro e he
  have e0 := i1 e he
  have e1 := i1 (ns_fl e) (ns_fl_lt he)
  rcases ns_ev e with ⟨k, k1, k2⟩ | ⟨k, k1, k2⟩
  · have := pr k (by omega)
    rw [k2] at e1
    rw [k1] at e0 ⊢
    omega
  · have := pr k (by omega)
    rw [k2] at e1
    rw [k1] at e0 ⊢
    omega
theorem wy_403 {n m : Nat} {st tc sf ec : Int32} {aT aH aC aK aS aJ W F T C K D P Q : Nat → Int32} {post : Int32 → SY → Prop} {x2 x5 x6 x7 : Int32} (hec : ec = nI (2 * (m + ns_cnt (ns_t aJ) n))) (hS : ny_S n m aS aT aH aC aK aJ F T K x2 x5) (hI : ns_YI n m (ns_t aC) (ns_t aJ) (ns_n F) (ns_n T) (ns_t K) (ns_t C) x6.toInt x7.toInt) (h6 : 0 ≤ x6.toInt)
    (hB : ns_B (n + 2) (m + ns_cnt (ns_t aJ) n) (ns_n F) (ns_n T) (ns_t K) (ns_t C) 1000000000 (ny_src n) 400000 (ns_t D) (ns_yp P)) (hC : ns_C (m + ns_cnt (ns_t aJ) n) (ns_n F) (ns_n T) (ns_t K) (ns_t C) 1000000000 (2 * (m + ns_cnt (ns_t aJ) n)) (ns_t D)) (ht : D (n + 1) = 1000000000)
    (htc : tc = 0) (hW : ∀ v, v < n → W v = 0)
    (h : ∀ (r st tc sf : Int32) (W Q : Nat → Int32), ns_Spec n m aS aT aH aC aK r st tc sf W → post r ((nI n), (nI m), st, tc, sf, ec, aT, aH, aC, aK, aS, aJ, W, F, T, C, K, D, P, Q)) : wY_solve_403 post x2 (nI (n + 1)) x5 x6 x7 (nI n) (nI m) st tc sf ec aT aH aC aK aS aJ W F T C K D P Q := by
  have hN := hS.1
  have hm := hN.2.2.1
  have hn := hN.2.1
  have hG := ny_G hS
  have hr := nx_r hN
  obtain ⟨u1, u2, u3, u4, u5, u6, u7, u8⟩ := ny_num hS hI
  have p1 := ny_P hS
  have p2 := ns_P_nn (ns_t aJ) n
  have p3 := hS.2.2.2.2.2.2
  obtain ⟨f1, f2, f3, f4⟩ := ns_YI_flow hr hS.2.2.2.2.1 hS.2.2.1 hI
  have zA : ns_cA (m + ns_cnt (ns_t aJ) n) (ns_n F) (ns_n T) (ns_t C) (2 * (m + ns_cnt (ns_t aJ) n)) (fun v => decide (ns_t D v = 1000000000)) := by
    intro e he _ hrc k
    exact decide_eq_true (ns_CU hG hB (by decide) hC he hrc (of_decide_eq_true k))
  have zn : ¬ (fun v => decide (ns_t D v = 1000000000)) n = true := by
    intro k
    have k : ns_t D n = 1000000000 := of_decide_eq_true k
    have := hB.2.2.2.1 n (by omega) (decide_eq_true rfl)
    omega
  have zt : (fun v => decide (ns_t D v = 1000000000)) (n + 1) = true := decide_eq_true (by show (D (n + 1)).toInt = 1000000000; rw [ht, ni_I])
  have hFin : ns_Fin n m (ns_n aT) (ns_n aH) (ns_t aS) (ns_t aK) (ns_t aC) (ns_yy (ns_t aK) (ns_t aC) (ns_t C)) := by
    obtain ⟨π, hπ⟩ := hI.2.2.2.2.2.2
    exact ⟨f1, ⟨_, ns_Y_cl (U := 0) (hi := 0) (src := fun _ => true) (d := fun _ => 0) (p := fun _ => none) hr hG hS.2.2.2.2.1 hS.2.2.1 hI _ zA zn zt⟩, π, ns_Pot_y hS.2.2.2.2.1 hI.2.1 hπ⟩
  have es : (x5 - x6).toInt = ns_P (fun v => ns_exc (ns_t aS) (ns_n aT) (ns_n aH) (ns_yy (ns_t aK) (ns_t aC) (ns_t C)) m v) n := by
    rw [ni_sub (by omega) (by omega), f3, p3]
  have pn := ns_P_nn (fun v => ns_exc (ns_t aS) (ns_n aT) (ns_n aH) (ns_yy (ns_t aK) (ns_t aC) (ns_t C)) m v) n
  refine nm_e (br_c (fun q => nm_e (h 1 1 _ 0 W Q (Or.inr ⟨hS.2.1, _, hFin, ?_, Or.inr ⟨by rw [ni_0]; exact Int.le_refl _, rfl, rfl, ?_, hW⟩⟩))) (fun q => ?_))
  · rw [ni_le, ni_0, es] at q
    rw [ni_0]; omega
  · rw [ni_add (by omega) (by omega), f4, hS.2.2.2.2.2.1]
  · have q' : 0 < (x5 - x6).toInt := by rw [ni_le, ni_0] at q; omega
    rw [htc] at *
    refine wy_mark hn (ny_H hS) hec hG hS.2.2.2.1 (fun W' Q' w1 w2 w3 w4 w5 => h 2 2 0 _ W' Q' (Or.inr ⟨hS.2.1, _, hFin, es, Or.inl ⟨q', rfl, rfl, rfl, fun v hv => by rw [w1 v hv]; exact w2 v (by omega), ?_, fun Z hZ v hv k => ?_⟩⟩))
    · refine ns_Cl_z (Z := ns_mb Q') hr (fun v hv => by unfold ns_mb; rw [w1 v hv]) (ns_Y_cl (U := 0) (hi := 0) (src := fun _ => true) (d := fun _ => 0) (p := fun _ => none) hr hG hS.2.2.2.2.1 hS.2.2.1 hI _ w5 (fun k => zn (w4 _ zt zA n (by omega) k)) w3)
    · have z := w4 _ (by show (if n + 1 < n then Z (n + 1) else decide (n + 1 = n + 1)) = true; rw [if_neg (by omega)]; exact decide_eq_true rfl) (ns_Y_cA hr hS.2.2.2.2.1 hS.2.2.1 hI Z hZ) v (by omega) (by unfold ns_mb; rw [← w1 v hv]; exact k)
      have z : (if v < n then Z v else decide (v = n + 1)) = true := z
      rw [if_pos hv] at z
      exact z
end
section
/-! 19: the reference's walks: the pushes, the laying, the whole solve -/
theorem ns_path_root {fr : Nat → Nat} {p : Nat → Option Nat} {r : Nat} : ∀ (es : List Nat) (v : Nat), ns_path fr p r v es → p r = none := by
  intro es
  induction es with
  | nil => intro v h; rw [← h.1]; exact h.2
  | cons e es ih => intro v h; exact ih _ h.2
theorem ns_ad_bd {a d : Int} (ha : 0 ≤ a ∧ a ≤ 3000) (hd : -400000 ≤ d ∧ d ≤ 400000) : -1200000000 ≤ a * d ∧ a * d ≤ 1200000000 := by
  have p := Int.mul_nonneg (a := a) (b := d + 400000) ha.1 (by omega)
  have q := Int.mul_nonneg (a := a) (b := 400000 - d) ha.1 (by omega)
  rw [Int.mul_add] at p
  rw [Int.mul_sub] at q
  omega
theorem wy_it {n m : Nat} {st tc sf ec : Int32} {aT aH aC aK aS aJ W F T C K D P Q : Nat → Int32} {post : Int32 → SY → Prop} {x2 x5 : Int32} (hec : ec = nI (2 * (m + ns_cnt (ns_t aJ) n))) (hS : ny_S n m aS aT aH aC aK aJ F T K x2 x5) (hI : ns_YI n m (ns_t aC) (ns_t aJ) (ns_n F) (ns_n T) (ns_t K) (ns_t C) 0 0)
    (htc : tc = 0) (hW : ∀ v, v < n → W v = 0)
    (h : ∀ (r st tc sf : Int32) (W C D P Q : Nat → Int32), ns_Spec n m aS aT aH aC aK r st tc sf W → post r ((nI n), (nI m), st, tc, sf, ec, aT, aH, aC, aK, aS, aJ, W, F, T, C, K, D, P, Q)) : ∃ k, wY_solve_328 post x2 (nI n) (nI (n + 1)) x5 k 0 0 0 (nI n) (nI m) st tc sf ec aT aH aC aK aS aJ W F T C K D P Q := by
  have hN := hS.1
  have hm := hN.2.2.1
  have hn := hN.2.1
  have hG := ny_G hS
  have hH := ny_H hS
  refine loop_0 (fun k i (s : Int32 × Int32 × (Nat → Int32) × (Nat → Int32) × (Nat → Int32)) => wY_solve_328 post x2 (nI n) (nI (n + 1)) x5 k s.1 s.2.1 (nI i) (nI n) (nI m) st tc sf ec aT aH aC aK aS aJ W F T s.2.2.1 K s.2.2.2.1 s.2.2.2.2 Q)
    (fun i s => ns_YI n m (ns_t aC) (ns_t aJ) (ns_n F) (ns_n T) (ns_t K) (ns_t s.2.2.1) s.1.toInt s.2.1.toInt ∧ (i : Int) ≤ s.1.toInt) 5000 (0, 0, C, D, P) ⟨by rw [ni_0]; exact hI, by rw [ni_0]; exact Int.le_refl _⟩
    (fun k s hs => absurd hs.2 (by have := (ny_num hS hs.1).1; omega)) (fun k i s hi hs ih => br_f (nI_ge (b := 5000) hi (by decide)) ?_)
  obtain ⟨x6, x7, C, D0, P0⟩ := s
  obtain ⟨hI, h6⟩ := hs
  dsimp only at hI h6 ⊢
  obtain ⟨π, hP⟩ := hI.2.2.2.2.2.2
  refine wy_short hn hH hec hG hS.2.2.2.1 hP (fun D P hB hC => ⟨fun q => br_t rfl (wy_403 hec hS hI (by omega) hB hC q htc hW (fun r st tc sf W Q hs => h r st tc sf W C D P Q hs)), fun q => br_f (by decide) ?_⟩)
  have hd : ns_t D (n + 1) ≠ 1000000000 := by
    intro z
    exact q (ni_eq.mpr (by rw [ni_I]; exact z))
  obtain ⟨es, r, p1, p2, p3, p4⟩ := ns_path_of hG hB (show n + 1 < n + 2 by omega) hd
  have p4 : r = n := of_decide_eq_true p4
  rw [p4] at p1
  obtain ⟨ρ, hρ⟩ := hB.2.2.2.2
  have hd0 : ns_t D n = 0 := by
    rcases hB.2.2.1 n (by omega) (ns_path_root es _ p1) with z | z
    · have := hB.2.2.2.1 n (by omega) (decide_eq_true rfl)
      omega
    · exact z.2
  have bd := hB.1 (n + 1) (by omega)
  have bd : -400000 ≤ ns_t D (n + 1) ∧ ns_t D (n + 1) ≤ 400000 := by omega
  have bd : -400000 ≤ (D (n + 1)).toInt ∧ (D (n + 1)).toInt ≤ 400000 := bd
  obtain ⟨v1, v2, v3, v4, v5, v6, v7, v8⟩ := ny_num hS hI
  refine ⟨es.length + 1, wy_bot hn hH hG hS.2.2.2.1 hB hρ es (n + 1) 0 1000000000 p1 (by omega) (by omega) (by rw [ni_I]; decide) (fun a a1 a2 a3 => br_t (by rw [ni_lt, ni_0]; exact a1) ?_)⟩
  have hY := ns_YI_push (tl := (ns_n aT)) (hd := (ns_n aH)) (c := ns_t aK) hG hI hB (by decide) hC hP p1 (Int.le_of_lt a1) a3 hd0
  obtain ⟨u1, u2, u3, u4, u5, u6, u7, u8⟩ := ny_num hS hY
  have am : (a * D (n + 1)).toInt = a.toInt * (D (n + 1)).toInt := by
    have := ns_ad_bd (a := a.toInt) (d := (D (n + 1)).toInt) (by omega) bd
    exact ni_mul (by omega) (by omega)
  have hY : ns_YI n m (ns_t aC) (ns_t aJ) (ns_n F) (ns_n T) (ns_t K) (ns_pu a.toInt es (ns_t C)) (x6.toInt + a.toInt) (x7.toInt + a.toInt * (D (n + 1)).toInt) := hY
  have u2 : -192000 ≤ x7.toInt + a.toInt * (D (n + 1)).toInt := u2
  have u3 : x7.toInt + a.toInt * (D (n + 1)).toInt ≤ 192000 := u3
  refine ⟨es.length + 1, wy_push hn hH hG hS.2.2.2.1 hB hρ (C := C) (by omega) es (n + 1) 0 C 2000 p1 (by omega) (by omega) (fun k hk => ?_) (by omega) (fun C' hC' => nm_e ⟨vp_in_nI (by omega) (by omega), nm_r (e' := x7 + a * D (n + 1)) (by rw [nI_clamp (show n + 1 < 2 ^ 31 by omega)])
    (nm_r (nI_1 i) (ih (x6 + a, x7 + a * D (n + 1), C', D, P) ⟨?_, ?_⟩))⟩)⟩
  · have b := v8 k hk
    have b : 0 ≤ (C k).toInt ∧ (C k).toInt ≤ 2000 := b
    omega
  · show ns_YI n m (ns_t aC) (ns_t aJ) (ns_n F) (ns_n T) (ns_t K) (ns_t C') (x6 + a).toInt (x7 + a * D (n + 1)).toInt
    rw [hC', ni_add (by omega) (by omega), ni_add (by omega) (by omega), am]
    exact hY
  · show ((i + 1 : Nat) : Int) ≤ (x6 + a).toInt
    rw [ni_add (by omega) (by omega)]
    omega
theorem wy_nodes {n m : Nat} {st tc sf ec : Int32} {aT aH aC aK aS aJ W F T C K D P Q : Nat → Int32} {post : Int32 → SY → Prop} {x2 : Int32} (hN : ns_Net n m aS aT aH aC aK) (hz : ns_sm (ns_t aS) n = 0) (hJ : ∀ v, v < n → ns_t aJ v = ns_exc (ns_t aS) (ns_n aT) (ns_n aH) (ns_y0 (ns_t aK) (ns_t aC)) m v)
    (hx2 : x2.toInt = ns_sm (fun a => ns_t aK a * ns_y0 (ns_t aK) (ns_t aC) a) m) (hya : ns_ya (ns_n aT) (ns_n aH) (ns_t aK) (ns_t aC) F T C K m) (htc : tc = 0) (hW : ∀ v, v < n → W v = 0)
    (h : ∀ (r st tc sf ec : Int32) (W F T C K D P Q : Nat → Int32), ns_Spec n m aS aT aH aC aK r st tc sf W → post r ((nI n), (nI m), st, tc, sf, ec, aT, aH, aC, aK, aS, aJ, W, F, T, C, K, D, P, Q)) : ∃ k, wY_solve_237 post x2 (nI n) (nI (n + 1)) k 0 0 (nI n) (nI m) st tc sf (nI (2 * m)) aT aH aC aK aS aJ W F T C K D P Q := by
  have hm := hN.2.2.1
  have hn := hN.2.1
  have bJ : ∀ v, v < n → -2000 ≤ (aJ v).toInt ∧ (aJ v).toInt ≤ 2000 := by
    intro v hv
    have b := ns_exc_bd (b := ns_t aS) (x := ns_y0 (ns_t aK) (ns_t aC)) (tl := (ns_n aT)) (hd := (ns_n aH)) (m := m) (v := v) (hN.2.2.2.1 v hv) (fun a ha => by have := ns_y0_bd (c := ns_t aK) (cap := ns_t aC) (a := a) (hN.2.2.2.2.2.1 a ha); omega)
    rw [← hJ v hv] at b
    have b : -(20 + 20 * (m : Int)) ≤ (aJ v).toInt ∧ (aJ v).toInt ≤ 20 + 20 * (m : Int) := b
    omega
  refine loop_0 (fun k i (s : Int32 × (Nat → Int32) × (Nat → Int32) × (Nat → Int32) × (Nat → Int32)) => wY_solve_237 post x2 (nI n) (nI (n + 1)) k s.1 (nI i) (nI n) (nI m) st tc sf (nI (2 * (m + ns_cnt (ns_t aJ) i))) aT aH aC aK aS aJ W s.2.1 s.2.2.1 s.2.2.2.1 s.2.2.2.2 D P Q)
    (fun i s => s.1.toInt = ns_P (ns_t aJ) i ∧ ns_ya (ns_n aT) (ns_n aH) (ns_t aK) (ns_t aC) s.2.1 s.2.2.1 s.2.2.2.1 s.2.2.2.2 m ∧ ns_yn n m (ns_t aJ) s.2.1 s.2.2.1 s.2.2.2.1 s.2.2.2.2 i) n (0, F, T, C, K)
    ⟨ni_0, hya, fun v hv => absurd hv (Nat.not_lt_zero _)⟩ (fun k s hs => br_t (nI_le (Nat.le_refl _) (by omega)) ?_) (fun k i s hi hs ih => br_f (nI_ge hi (by omega)) ⟨vp_in_nI (by omega) (by omega), ?_⟩)
  · obtain ⟨x5, F, T, C, K⟩ := s
    obtain ⟨s1, s2, s3⟩ := hs
    obtain ⟨y1, y2, y3⟩ := ns_y_all hn (nx_r hN) s2 s3 (fun a ha => (hN.2.2.2.2.2.1 a ha).1)
    exact wy_it rfl ⟨hN, hz, hJ, y1, y2, hx2, s1⟩ y3 htc hW (fun r st tc sf W C D P Q hs => h r st tc sf _ W F T C K D P Q hs)
  · obtain ⟨x5, F, T, C, K⟩ := s
    obtain ⟨s1, s2, s3⟩ := hs
    dsimp only at s1 s2 s3 ⊢
    have iI : vp_in (nI i) 24 := vp_in_nI (by omega) (by omega)
    have cl := ns_cnt_le (ns_t aJ) i
    have b := bJ i hi
    have sP : ns_P (ns_t aJ) (i + 1) = ns_P (ns_t aJ) i + ns_ps (aJ i).toInt := rfl
    have pb := ns_sm_bd (f := fun v => ns_ps (ns_t aJ v)) (B := 2000) i (fun v hv => by
      have := bJ v (by omega)
      show -2000 ≤ ns_ps (aJ v).toInt ∧ ns_ps (aJ v).toInt ≤ 2000
      unfold ns_ps
      split <;> omega)
    have s1' : x5.toInt = ns_sm (fun v => ns_ps (ns_t aJ v)) i := s1
    have nx : ∀ (hzz : ns_t aJ i ≠ 0), 2 * (m + ns_cnt (ns_t aJ) (i + 1)) = 2 * (m + ns_cnt (ns_t aJ) i + 1) := by
      intro hzz
      rw [ns_cnt_s, if_neg hzz]
      omega
    rw [nI_clamp (show i < 2 ^ 31 by omega)]
    refine br_c (fun q => ⟨iI, br_c (fun y => nm_r (nI_1 i) ?_) (fun y => ⟨iI, wy_add (ec := 0) (by omega) (nm_r (nI_1 i) ?_)⟩)⟩) (fun q => ⟨iI, wy_add (ec := 0) (by omega) ⟨iI, nm_e (nm_r (nI_1 i) ?_)⟩⟩)
    · rw [ni_le, ni_0] at q y
      have z0 : ns_t aJ i = 0 := by show (aJ i).toInt = 0; omega
      have t := ih (x5, F, T, C, K) ⟨by show x5.toInt = _; rw [sP, ← s1]; unfold ns_ps; rw [if_neg (by omega)]; omega, s2, ns_yn_z s3 z0⟩
      have ec' : ns_cnt (ns_t aJ) (i + 1) = ns_cnt (ns_t aJ) i := by rw [ns_cnt_s, if_pos z0]; rfl
      dsimp only at t
      rw [ec'] at t
      exact t
    · rw [ni_le, ni_0] at q y
      have z0 : ns_t aJ i ≠ 0 := by show (aJ i).toInt ≠ 0; omega
      have hg : (-(aJ i)).toInt = -(aJ i).toInt := ni_neg (by omega) (by omega)
      have t := ih (x5, ns_u2 F (m + ns_cnt (ns_t aJ) i) (nI i) (nI (n + 1)), ns_u2 T (m + ns_cnt (ns_t aJ) i) (nI (n + 1)) (nI i), ns_u2 C (m + ns_cnt (ns_t aJ) i) (-(aJ i)) 0, ns_u2 K (m + ns_cnt (ns_t aJ) i) 0 (-0)) ⟨by show x5.toInt = _; rw [sP, ← s1]; unfold ns_ps; rw [if_neg (by omega)]; omega, ns_ya_k s2 (Nat.le_add_right m (ns_cnt (ns_t aJ) i)) (ns_u2_k _ _ _ _) (ns_u2_k _ _ _ _) (ns_u2_k _ _ _ _) (ns_u2_k _ _ _ _),
        ns_yn_s (s := i) (t := n + 1) (x := -(aJ i)) s3 z0 (fun w => by have w : 0 < (aJ i).toInt := w; omega) (fun w => ⟨rfl, rfl, hg⟩)⟩
      dsimp only at t
      rw [nx z0] at t
      exact t
    · rw [ni_le, ni_0] at q
      have z0 : ns_t aJ i ≠ 0 := by show (aJ i).toInt ≠ 0; omega
      have t := ih (x5 + aJ i, ns_u2 F (m + ns_cnt (ns_t aJ) i) (nI n) (nI i), ns_u2 T (m + ns_cnt (ns_t aJ) i) (nI i) (nI n), ns_u2 C (m + ns_cnt (ns_t aJ) i) (aJ i) 0, ns_u2 K (m + ns_cnt (ns_t aJ) i) 0 (-0)) ⟨by
          show (x5 + aJ i).toInt = _
          rw [sP, ni_add (by omega) (by omega), s1]; unfold ns_ps; rw [if_pos (by omega)], ns_ya_k s2 (Nat.le_add_right m (ns_cnt (ns_t aJ) i)) (ns_u2_k _ _ _ _) (ns_u2_k _ _ _ _) (ns_u2_k _ _ _ _) (ns_u2_k _ _ _ _),
        ns_yn_s (s := n) (t := i) (x := aJ i) s3 z0 (fun w => ⟨rfl, rfl, rfl⟩) (fun w => by have w : (aJ i).toInt < 0 := w; omega)⟩
      dsimp only at t
      rw [nx z0] at t
      exact t
theorem wy_arcs {n m : Nat} {st tc sf ec : Int32} {aT aH aC aK aS aJ W F T C K D P Q : Nat → Int32} {post : Int32 → SY → Prop} (hN : ns_Net n m aS aT aH aC aK) (hz : ns_sm (ns_t aS) n = 0) (hJ : ∀ v, v < n → aJ v = aS v) (htc : tc = 0) (hW : ∀ v, v < n → W v = 0)
    (h : ∀ (r st tc sf ec : Int32) (aJ W F T C K D P Q : Nat → Int32), ns_Spec n m aS aT aH aC aK r st tc sf W → post r ((nI n), (nI m), st, tc, sf, ec, aT, aH, aC, aK, aS, aJ, W, F, T, C, K, D, P, Q)) : ∃ k, wY_solve_79 post k 0 0 (nI n) (nI m) st tc sf 0 aT aH aC aK aS aJ W F T C K D P Q := by
  have hm := hN.2.2.1
  have hn := hN.2.1
  refine loop_0 (fun k i (s : Int32 × (Nat → Int32) × (Nat → Int32) × (Nat → Int32) × (Nat → Int32) × (Nat → Int32)) => wY_solve_79 post k s.1 (nI i) (nI n) (nI m) st tc sf (nI (2 * i)) aT aH aC aK aS s.2.1 W s.2.2.1 s.2.2.2.1 s.2.2.2.2.1 s.2.2.2.2.2 D P Q)
    (fun i s => s.1.toInt = ns_sm (fun a => ns_t aK a * ns_y0 (ns_t aK) (ns_t aC) a) i ∧ (∀ v, v < n → (s.2.1 v).toInt = ns_exc (ns_t aS) (ns_n aT) (ns_n aH) (ns_y0 (ns_t aK) (ns_t aC)) i v) ∧
      ns_ya (ns_n aT) (ns_n aH) (ns_t aK) (ns_t aC) s.2.2.1 s.2.2.2.1 s.2.2.2.2.1 s.2.2.2.2.2 i) m (0, aJ, F, T, C, K)
    ⟨ni_0, fun v hv => by rw [ns_exc_0]; show (aJ v).toInt = (aS v).toInt; rw [hJ v hv], fun a ha => absurd ha (Nat.not_lt_zero _)⟩ (fun k s hs => br_t (nI_le (Nat.le_refl _) (by omega)) ?_) (fun k i s hi hs ih => br_f (nI_ge hi (by omega)) ⟨vp_in_nI (by omega) (by omega), ?_⟩)
  · obtain ⟨x2, aJ, F, T, C, K⟩ := s
    obtain ⟨s1, s2, s3⟩ := hs
    exact nm_r (e' := nI (n + 1)) (nI_1 n) (wy_nodes (ec := 0) hN hz s2 s1 s3 htc hW (fun r st tc sf ec W F T C K D P Q hs => h r st tc sf ec aJ W F T C K D P Q hs))
  · obtain ⟨x2, aJ, F, T, C, K⟩ := s
    obtain ⟨s1, s2, s3⟩ := hs
    dsimp only at s1 s2 s3 ⊢
    obtain ⟨a1, a2, a3, a4, a5⟩ := hN.2.2.2.2.1 i hi
    have bC := hN.2.2.2.2.2.1
    have bK := hN.2.2.2.2.2.2 i hi
    have bCi := bC i hi
    have iI : vp_in (nI i) 96 := vp_in_nI (by omega) (by omega)
    have ei : (nI i).toNatClampNeg = i := nI_clamp (by omega)
    have iT : vp_in (aT i) 24 := by rw [a1]; exact vp_in_nI (by omega) (by omega)
    have iH : vp_in (aH i) 24 := by rw [a3]; exact vp_in_nI (by omega) (by omega)
    have k0 : (0 ≤ aK i) ↔ ¬ ns_t aK i < 0 := by
      rw [ni_le, ni_0]
      show 0 ≤ (aK i).toInt ↔ ¬ (aK i).toInt < 0
      omega
    have sb := ns_sm_bd (f := fun a => ns_t aK a * ns_y0 (ns_t aK) (ns_t aC) a) (B := 1000) i (fun a ha => ns_cx_bd (hN.2.2.2.2.2.2 a (by omega)) (ns_y0_bd (bC a (by omega))))
    have cb := ns_cx_bd bK bCi
    have cm : (aK i * aC i).toInt = (aK i).toInt * (aC i).toInt := ni_mul (by omega) (by omega)
    rw [ei]
    refine br_c (fun q => ⟨iI, iI, iI, iI, ?_⟩) (fun q => ⟨iI, iI, iI, iI, ?_⟩)
    · have y0 : ns_y0 (ns_t aK) (ns_t aC) i = 0 := if_neg (k0.mp q)
      rw [a1, a3]
      refine wy_add (ec := 0) (by omega) (nm_r (nI_1 i) (ih (x2, aJ, _, _, _, _) ⟨?_, fun v hv => ?_, ns_ya_s s3 bK rfl (fun w => absurd w (k0.mp q)) (fun _ => ⟨rfl, rfl, rfl⟩)⟩))
      · show x2.toInt = _
        rw [ns_sm_s, ← s1, y0, Int.mul_zero, Int.add_zero]
      · rw [ns_exc_s, y0, Int.zero_mul, Int.add_zero]; exact s2 v hv
    · have qn : ns_t aK i < 0 := Decidable.not_not.mp (fun z => q (k0.mpr z))
      have y0 : ns_y0 (ns_t aK) (ns_t aC) i = (aC i).toInt := if_pos qn
      have hg : (-(aK i)).toInt = -(aK i).toInt := ni_neg (by omega) (by omega)
      have st1 := wx_st1 (aE := aJ) (fl := aC i) (b := ns_t aS) (y := ns_y0 (ns_t aK) (ns_t aC)) a2 a4 a5 (fun a ha => ns_y0_bd (bC a (by omega))) hN.2.2.2.1 (by omega) y0.symm (ns_y0_bd (bC i hi)) s2
      have base : (x2 + aK i * aC i).toInt = ns_sm (fun a => ns_t aK a * ns_y0 (ns_t aK) (ns_t aC) a) (i + 1) := by
        rw [ns_sm_s, y0, ni_add (by omega) (by omega), s1, cm]
        rfl
      rw [a1, a3]
      refine wy_add (ec := 0) (by omega) ⟨iI, iT, iI, iT, nm_r (e' := upd aJ (ns_n aT i) (aJ (ns_n aT i) - aC i)) rfl ⟨iI, iH, iI, iH, nm_r (e' := upd (upd aJ (ns_n aT i) (aJ (ns_n aT i) - aC i)) (ns_n aH i) (upd aJ (ns_n aT i) (aJ (ns_n aT i) - aC i) (ns_n aH i) + aC i)) rfl
        ⟨iI, iI, nm_e (nm_r (nI_1 i) (ih (x2 + aK i * aC i, _, _, _, _, _) ⟨base, st1, ns_ya_s s3 (by rw [hg]; omega) rfl (fun _ => ⟨rfl, rfl, hg⟩) (fun w => absurd qn w)⟩))⟩⟩⟩
theorem wy_solve {n m : Nat} {st tc sf ec : Int32} {aT aH aC aK aS aJ W F T C K D P Q : Nat → Int32} {post : Int32 → SY → Prop} (hN : ns_Net n m aS aT aH aC aK) (h : ∀ (r st tc sf ec : Int32) (aJ W F T C K D P Q : Nat → Int32), ns_Spec n m aS aT aH aC aK r st tc sf W → post r ((nI n), (nI m), st, tc, sf, ec, aT, aH, aC, aK, aS, aJ, W, F, T, C, K, D, P, Q)) : wpY_solve post ((nI n), (nI m), st, tc, sf, ec, aT, aH, aC, aK, aS, aJ, W, F, T, C, K, D, P, Q) := by
  have hm := hN.2.2.1
  have hn := hN.2.1
  unfold wpY_solve
  refine wy_reset (fun W0 hW0 => ?_)
  refine loop_0 (fun k i s => wY_solve_8 post (nI n) (nI m) 0 0 0 ec aT aH aC aK aS aJ W0 F T C K D P Q k s (nI i)) (fun i s => s.toInt = ns_sm (ns_t aS) i) n 0 ni_0
    (fun k s hs => br_t (nI_le (Nat.le_refl _) (by omega)) (br_c (fun q => ?_) (fun q => h 3 3 0 0 ec aJ W0 F T C K D P Q (Or.inl ⟨fun z => q (ni_eq.mpr (by rw [hs, z, ni_0])), rfl, rfl, rfl, rfl, fun v hv => hW0 v (by omega)⟩))))
    (fun k i s hi hs ih => br_f (nI_ge hi (by omega)) ⟨vp_in_nI (by omega) (by omega), nm_r (e' := s + aS i) (by rw [nI_clamp (by omega)]) (nm_r (nI_1 i) (ih _ (by
      have b := ns_sm_bd (f := ns_t aS) (B := 20) i (fun v hv => hN.2.2.2.1 v (by omega))
      have c := hN.2.2.2.1 i (by omega)
      show (s + aS i).toInt = ns_sm (ns_t aS) i + (aS i).toInt
      rw [ni_add (by omega) (by omega), hs])))⟩)
  have z0 : ns_sm (ns_t aS) n = 0 := by rw [← hs, q, ni_0]
  refine loop_0 (fun k i aJ => wY_solve_51 post 0 (nI n) (nI m) 0 0 0 0 k (nI i) aT aH aC aK aS aJ W0 F T C K D P Q) (fun i aJ => ∀ v, v < i → aJ v = aS v) n aJ (fun v hv => absurd hv (Nat.not_lt_zero _))
    (fun k aJ hJ => br_t (nI_le (Nat.le_refl _) (by omega)) (wy_arcs (ec := 0) hN z0 hJ rfl (fun v hv => hW0 v (by omega)) h))
    (fun k i aJ hi hJ ih => br_f (nI_ge hi (by omega)) ⟨vp_in_nI (by omega) (by omega), vp_in_nI (by omega) (by omega), nm_r (e' := upd aJ i (aS i)) (by rw [nI_clamp (by omega)]) (nm_r (nI_1 i) (ih _ (fun v hv => by
      by_cases q : v = i
      · rw [q, nu_s]
      · rw [nu_n q]; exact hJ v (by omega))))⟩)
end
section
/-! 20: the relation, and what is owed of the small methods -/
def i_Rel (k : Nat) (u : SX) (v : SY) : Prop := ∃ (n m : Nat) (st tc sf ec : Int32) (aS aT aH aC aK W aF aE aD aP aJ V F T C K D P Q : Nat → Int32),
  u = ((nI n), (nI m), st, tc, sf, aS, aT, aH, aC, aK, W, aF, aE, aD, aP) ∧ v = ((nI n), (nI m), st, tc, sf, ec, aT, aH, aC, aK, aS, aJ, V, F, T, C, K, D, P, Q) ∧ ns_Net n m aS aT aH aC aK ∧ ns_01 n W ∧ (∀ j, j < n → V j = W j)
theorem i_up {k : Nat} {u : SX} {v : SY} (h : i_Rel k u v) : i_Rel (k + 5) u v := h
theorem ir_mk {k n m : Nat} {st tc sf ec : Int32} {aS aT aH aC aK W aF aE aD aP aJ V F T C K D P Q : Nat → Int32} (hN : ns_Net n m aS aT aH aC aK) (h1 : ns_01 n W) (hV : ∀ j, j < n → V j = W j) : i_Rel k ((nI n), (nI m), st, tc, sf, aS, aT, aH, aC, aK, W, aF, aE, aD, aP) ((nI n), (nI m), st, tc, sf, ec, aT, aH, aC, aK, aS, aJ, V, F, T, C, K, D, P, Q) :=
  ⟨n, m, st, tc, sf, ec, aS, aT, aH, aC, aK, W, aF, aE, aD, aP, aJ, V, F, T, C, K, D, P, Q, rfl, rfl, hN, h1, hV⟩
theorem ir_mk0 {k n m : Nat} {st tc sf ec : Int32} {aS aT aH aC aK W aF aE aD aP aJ V F T C K D P Q : Nat → Int32} (hN : ns_Net n m aS aT aH aC aK) (h1 : ∀ v, v < n → W v = 0) (h2 : ∀ v, v < 24 → V v = 0) : i_Rel k ((nI n), (nI m), st, tc, sf, aS, aT, aH, aC, aK, W, aF, aE, aD, aP) ((nI n), (nI m), st, tc, sf, ec, aT, aH, aC, aK, aS, aJ, V, F, T, C, K, D, P, Q) :=
  ir_mk hN (fun v hv => Or.inl (h1 v hv)) (fun j hj => (h2 j (by have := hN.2.1; omega)).trans (h1 j hj).symm)
theorem wc_clamp (x lo hi : Int32) (h : lo.toInt ≤ hi.toInt) : ∃ r : Int32, lo.toInt ≤ r.toInt ∧ r.toInt ≤ hi.toInt ∧ (∀ post : Int32 → Prop, post r → wpX_clamp post x lo hi) ∧ (∀ (post : Int32 → Prop) (u : SY), post r → wpY_clamp post u x lo hi) := by
  by_cases h1 : lo ≤ x
  · by_cases h2 : x ≤ hi
    · exact ⟨x, ni_le.mp h1, ni_le.mp h2, fun post hp => br_t h1 (br_t h2 hp), fun post u hp => br_t h1 (br_t h2 hp)⟩
    · exact ⟨hi, h, Int.le_refl _, fun post hp => br_t h1 (br_f h2 hp), fun post u hp => br_t h1 (br_f h2 hp)⟩
  · exact ⟨lo, Int.le_refl _, h, fun post hp => br_f h1 hp, fun post u hp => br_f h1 hp⟩
theorem wc_ix (x : Int32) (n : Nat) : (x < 0 ∨ (¬ x < 0 ∧ nI n ≤ x)) ∨ ∃ j, j < n ∧ x = nI j := by
  by_cases h0 : x < 0
  · exact Or.inl (Or.inl h0)
  · by_cases h1 : nI n ≤ x
    · exact Or.inl (Or.inr ⟨h0, h1⟩)
    · obtain ⟨j, hj, e⟩ := nI_of h0
      refine Or.inr ⟨j, ?_, e⟩
      by_cases q : j < n
      · exact q
      · exact absurd (by rw [e]; exact nI_le (by omega) hj) h1
theorem wc_bad {x N : Int32} {A B : Prop} (h : x < 0 ∨ (¬ x < 0 ∧ N ≤ x)) (a : A) : (x < 0 → A) ∧ (¬ x < 0 → ((x < N → B) ∧ (¬ x < N → A))) := by
  rcases h with h | ⟨h, h'⟩
  · exact br_t h a
  · exact br_f h (br_f (Int32.not_lt.mpr h') a)
theorem wc_ok {j n : Nat} {A B E : Prop} (hj : j < n) (hn : n < 2 ^ 31) (b : B) : (nI j < 0 → A) ∧ (¬ nI j < 0 → ((nI j < nI n → B) ∧ (¬ nI j < nI n → E))) :=
  br_f (nI_pos (by omega)) (br_t (nI_lt hj hn) b)
theorem wx_nb {n m : Nat} {st tc sf : Int32} {aS aT aH aC aK W aF aE aD aP : Nat → Int32} {post : Int32 → Prop} {x : Int32} (h : x < 0 ∨ (¬ x < 0 ∧ nI n ≤ x)) (hp : post 0) : wpX_isNode post ((nI n), (nI m), st, tc, sf, aS, aT, aH, aC, aK, W, aF, aE, aD, aP) x := by
  rcases h with h | ⟨h, h'⟩
  · exact br_t h hp
  · exact br_f h (br_t h' hp)
theorem wx_nk {n m : Nat} {st tc sf : Int32} {aS aT aH aC aK W aF aE aD aP : Nat → Int32} {post : Int32 → Prop} {j : Nat} (hj : j < n) (hn : n ≤ 24) (hp : post 1) : wpX_isNode post ((nI n), (nI m), st, tc, sf, aS, aT, aH, aC, aK, W, aF, aE, aD, aP) (nI j) :=
  br_f (nI_pos (by omega)) (br_f (nI_ge hj (by omega)) hp)
theorem wx_ab {n m : Nat} {st tc sf : Int32} {aS aT aH aC aK W aF aE aD aP : Nat → Int32} {post : Int32 → Prop} {x : Int32} (h : x < 0 ∨ (¬ x < 0 ∧ nI m ≤ x)) (hp : post 0) : wpX_isArc post ((nI n), (nI m), st, tc, sf, aS, aT, aH, aC, aK, W, aF, aE, aD, aP) x := by
  rcases h with h | ⟨h, h'⟩
  · exact br_t h hp
  · exact br_f h (br_t h' hp)
theorem wx_ak {n m : Nat} {st tc sf : Int32} {aS aT aH aC aK W aF aE aD aP : Nat → Int32} {post : Int32 → Prop} {j : Nat} (hj : j < m) (hm : m ≤ 96) (hp : post 1) : wpX_isArc post ((nI n), (nI m), st, tc, sf, aS, aT, aH, aC, aK, W, aF, aE, aD, aP) (nI j) :=
  br_f (nI_pos (by omega)) (br_f (nI_ge hj (by omega)) hp)
theorem ne_S {n m : Nat} {aS aT aH aC aK : Nat → Int32} (h : ns_Net n m aS aT aH aC aK) (j : Nat) {r : Int32} (hr : -20 ≤ r.toInt ∧ r.toInt ≤ 20) : ns_Net n m (upd aS j r) aT aH aC aK := by
  obtain ⟨a1, a2, a3, a4, a5, a6, a7⟩ := h
  refine ⟨a1, a2, a3, fun v hv => ?_, a5, a6, a7⟩
  by_cases q : v = j
  · rw [q, nu_s]; exact hr
  · rw [nu_n q]; exact a4 v hv
theorem ne_C {n m : Nat} {aS aT aH aC aK : Nat → Int32} (h : ns_Net n m aS aT aH aC aK) (j : Nat) {r : Int32} (hr : 0 ≤ r.toInt ∧ r.toInt ≤ 20) : ns_Net n m aS aT aH (upd aC j r) aK := by
  obtain ⟨a1, a2, a3, a4, a5, a6, a7⟩ := h
  refine ⟨a1, a2, a3, a4, a5, fun v hv => ?_, a7⟩
  by_cases q : v = j
  · rw [q, nu_s]; exact hr
  · rw [nu_n q]; exact a6 v hv
theorem ne_K {n m : Nat} {aS aT aH aC aK : Nat → Int32} (h : ns_Net n m aS aT aH aC aK) (j : Nat) {r : Int32} (hr : -50 ≤ r.toInt ∧ r.toInt ≤ 50) : ns_Net n m aS aT aH aC (upd aK j r) := by
  obtain ⟨a1, a2, a3, a4, a5, a6, a7⟩ := h
  refine ⟨a1, a2, a3, a4, a5, a6, fun v hv => ?_⟩
  by_cases q : v = j
  · rw [q, nu_s]; exact hr
  · rw [nu_n q]; exact a7 v hv
theorem ne_A {n m : Nat} {aS aT aH aC aK : Nat → Int32} (h : ns_Net n m aS aT aH aC aK) (hm : m < 96) {a b : Nat} (ha : a < n) (hb : b < n) (hab : a ≠ b) {r s : Int32} (hr : 0 ≤ r.toInt ∧ r.toInt ≤ 20) (hs : -50 ≤ s.toInt ∧ s.toInt ≤ 50) :
    ns_Net n (m + 1) aS (upd aT m (nI a)) (upd aH m (nI b)) (upd aC m r) (upd aK m s) := by
  obtain ⟨a1, a2, a3, a4, a5, a6, a7⟩ := h
  refine ⟨a1, a2, by omega, a4, fun v hv => ?_, fun v hv => ?_, fun v hv => ?_⟩
  · unfold ns_n
    by_cases q : v = m
    · rw [q, nu_s, nu_s, nI_clamp (show a < 2 ^ 31 by omega), nI_clamp (show b < 2 ^ 31 by omega)]
      exact ⟨rfl, ha, rfl, hb, hab⟩
    · rw [nu_n q, nu_n q]; exact a5 v (by omega)
  · by_cases q : v = m
    · rw [q, nu_s]; exact hr
    · rw [nu_n q]; exact a6 v (by omega)
  · by_cases q : v = m
    · rw [q, nu_s]; exact hs
    · rw [nu_n q]; exact a7 v (by omega)
theorem nl_20 : (20 : Int32).toInt = 20 := by decide
theorem nl_m20 : (-20 : Int32).toInt = -20 := by decide
theorem nl_50 : (50 : Int32).toInt = 50 := by decide
theorem nl_m50 : (-50 : Int32).toInt = -50 := by decide
theorem nl_2 : (2 : Int32).toInt = 2 := by decide
theorem nl_24 : (24 : Int32).toInt = 24 := by decide
theorem i_vc0 (k0 : Int32) : wpX_init (fun u => wpY_init (fun v => i_Rel 1 u v) k0) k0 := by
  obtain ⟨r, r1, r2, hX, hY⟩ := wc_clamp k0 2 24 (by decide)
  rw [nl_2] at r1
  rw [nl_24] at r2
  obtain ⟨n, hn, e⟩ := nI_of (x := r) (by rw [ni_lt, ni_0]; omega)
  rw [e, ni_n hn] at r1 r2
  refine hX _ (hY _ _ ?_)
  rw [e]
  exact ir_mk0 (m := 0) (n := n) ⟨by omega, by omega, by omega, fun v hv => by rw [ni_0]; omega, fun k hk => absurd hk (Nat.not_lt_zero _), fun k hk => absurd hk (Nat.not_lt_zero _), fun k hk => absurd hk (Nat.not_lt_zero _)⟩ (fun _ _ => rfl) (fun _ _ => rfl)
theorem i_vc_addArc {k : Nat} {u : SX} {v : SY} (I : i_Rel k u v) (hk : k + 5 ≤ 2561) (v1 : Int32) (v2 : Int32) (v3 : Int32) (v4 : Int32) : wpX_addArc (fun r u' => wpY_addArc (fun r' v' => r' = r ∧ i_Rel (k + 5) u' v') v v1 v2 v3 v4) u v1 v2 v3 v4 := by
  have I' : i_Rel (k + 5) u v := I
  obtain ⟨n, m, st, tc, sf, ec, aS, aT, aH, aC, aK, W, aF, aE, aD, aP, aJ, V, F, T, C, K, D, P, Q, rfl, rfl, hN, h1, hV⟩ := I
  have hm := hN.2.2.1
  have hn := hN.2.1
  by_cases m96 : m = 96
  · have e : nI m = 96 := by rw [m96]; rfl
    exact br_t e (br_t e ⟨rfl, I'⟩)
  · have e : ¬ nI m = 96 := fun z => m96 ((nI_eq (b := 96) (by omega) (by decide)).mp z)
    refine br_f e ?_
    rcases wc_ix v1 n with b1 | ⟨a, ha, rfl⟩
    · exact wx_nb b1 (br_t rfl (br_f e (wc_bad b1 ⟨rfl, I'⟩)))
    · refine wx_nk ha hn (br_f (by decide) ?_)
      rcases wc_ix v2 n with b2 | ⟨b, hb, rfl⟩
      · exact wx_nb b2 (br_t rfl (br_f e (wc_ok ha (by omega) (wc_bad b2 ⟨rfl, I'⟩))))
      · refine wx_nk hb hn (br_f (by decide) ?_)
        by_cases hab : a = b
        · have q : nI a = nI b := by rw [hab]
          exact br_t q (br_f e (wc_ok ha (by omega) (wc_ok hb (by omega) (br_t q ⟨rfl, I'⟩))))
        · have q : ¬ nI a = nI b := fun z => hab ((nI_eq (by omega) (by omega)).mp z)
          have em : (nI m).toNatClampNeg = m := nI_clamp (by omega)
          have im : vp_in (nI m) 96 := vp_in_nI (by omega) (by omega)
          obtain ⟨r, r1, r2, rX, rY⟩ := wc_clamp v3 0 20 (by decide)
          obtain ⟨s, s1, s2, sX, sY⟩ := wc_clamp v4 (-50) 50 (by decide)
          rw [ni_0] at r1
          rw [nl_20] at r2
          rw [nl_m50] at s1
          rw [nl_50] at s2
          have hN' := ne_A hN (by omega) ha hb hab ⟨r1, r2⟩ ⟨s1, s2⟩
          refine br_f q ⟨im, nm_r (e' := upd aT m (nI a)) (by rw [em]) ⟨im, nm_r (e' := upd aH m (nI b)) (by rw [em]) (rX _ ⟨im, nm_r (e' := upd aC m r) (by rw [em]) (sX _ ⟨im, nm_r (e' := upd aK m s) (by rw [em]) (nm_r (nI_1 m) (wx_reset hn (fun W' hW' => ?_)))⟩)⟩)⟩⟩
          refine br_f e (wc_ok ha (by omega) (wc_ok hb (by omega) (br_f q ⟨im, nm_r (e' := upd aT m (nI a)) (by rw [em]) ⟨im, nm_r (e' := upd aH m (nI b)) (by rw [em]) (rY _ _ ⟨im, nm_r (e' := upd aC m r) (by rw [em]) (sY _ _ ⟨im, nm_r (e' := upd aK m s) (by rw [em]) (nm_r (nI_1 m) (wy_reset (fun V' hV' => ⟨nI_pred m, ir_mk0 hN' hW' hV'⟩)))⟩)⟩)⟩⟩)))
theorem i_vc_setSupply {k : Nat} {u : SX} {v : SY} (I : i_Rel k u v) (hk : k + 5 ≤ 2561) (v1 : Int32) (v2 : Int32) : wpX_setSupply (fun r u' => wpY_setSupply (fun r' v' => r' = r ∧ i_Rel (k + 5) u' v') v v1 v2) u v1 v2 := by
  have I' : i_Rel (k + 5) u v := I
  obtain ⟨n, m, st, tc, sf, ec, aS, aT, aH, aC, aK, W, aF, aE, aD, aP, aJ, V, F, T, C, K, D, P, Q, rfl, rfl, hN, h1, hV⟩ := I
  have hm := hN.2.2.1
  have hn := hN.2.1
  unfold wpX_setSupply
  rcases wc_ix v1 n with b1 | ⟨a, ha, rfl⟩
  · exact wx_nb b1 (br_t rfl (wc_bad b1 ⟨rfl, I'⟩))
  · obtain ⟨r, r1, r2, rX, rY⟩ := wc_clamp v2 (-20) 20 (by decide)
    rw [nl_m20] at r1
    rw [nl_20] at r2
    have em : (nI a).toNatClampNeg = a := nI_clamp (by omega)
    have im : vp_in (nI a) 24 := vp_in_nI (by omega) (by omega)
    exact wx_nk ha hn (br_f (by decide) (rX _ ⟨im, nm_r (e' := upd aS a r) (by rw [em]) (wx_reset hn (fun W' hW' => wc_ok ha (by omega) (rY _ _ ⟨im, nm_r (e' := upd aS a r) (by rw [em]) (wy_reset (fun V' hV' => ⟨rfl, ir_mk0 (ne_S hN a ⟨r1, r2⟩) hW' hV'⟩))⟩)))⟩))
theorem i_vc_setCapacity {k : Nat} {u : SX} {v : SY} (I : i_Rel k u v) (hk : k + 5 ≤ 2561) (v1 : Int32) (v2 : Int32) : wpX_setCapacity (fun r u' => wpY_setCapacity (fun r' v' => r' = r ∧ i_Rel (k + 5) u' v') v v1 v2) u v1 v2 := by
  have I' : i_Rel (k + 5) u v := I
  obtain ⟨n, m, st, tc, sf, ec, aS, aT, aH, aC, aK, W, aF, aE, aD, aP, aJ, V, F, T, C, K, D, P, Q, rfl, rfl, hN, h1, hV⟩ := I
  have hm := hN.2.2.1
  have hn := hN.2.1
  unfold wpX_setCapacity
  rcases wc_ix v1 m with b1 | ⟨a, ha, rfl⟩
  · exact wx_ab b1 (br_t rfl (wc_bad b1 ⟨rfl, I'⟩))
  · obtain ⟨r, r1, r2, rX, rY⟩ := wc_clamp v2 0 20 (by decide)
    rw [ni_0] at r1
    rw [nl_20] at r2
    have em : (nI a).toNatClampNeg = a := nI_clamp (by omega)
    have im : vp_in (nI a) 96 := vp_in_nI (by omega) (by omega)
    exact wx_ak ha hm (br_f (by decide) (rX _ ⟨im, nm_r (e' := upd aC a r) (by rw [em]) (wx_reset hn (fun W' hW' => wc_ok ha (by omega) (rY _ _ ⟨im, nm_r (e' := upd aC a r) (by rw [em]) (wy_reset (fun V' hV' => ⟨rfl, ir_mk0 (ne_C hN a ⟨r1, r2⟩) hW' hV'⟩))⟩)))⟩))
theorem i_vc_setCost {k : Nat} {u : SX} {v : SY} (I : i_Rel k u v) (hk : k + 5 ≤ 2561) (v1 : Int32) (v2 : Int32) : wpX_setCost (fun r u' => wpY_setCost (fun r' v' => r' = r ∧ i_Rel (k + 5) u' v') v v1 v2) u v1 v2 := by
  have I' : i_Rel (k + 5) u v := I
  obtain ⟨n, m, st, tc, sf, ec, aS, aT, aH, aC, aK, W, aF, aE, aD, aP, aJ, V, F, T, C, K, D, P, Q, rfl, rfl, hN, h1, hV⟩ := I
  have hm := hN.2.2.1
  have hn := hN.2.1
  unfold wpX_setCost
  rcases wc_ix v1 m with b1 | ⟨a, ha, rfl⟩
  · exact wx_ab b1 (br_t rfl (wc_bad b1 ⟨rfl, I'⟩))
  · obtain ⟨r, r1, r2, rX, rY⟩ := wc_clamp v2 (-50) 50 (by decide)
    rw [nl_m50] at r1
    rw [nl_50] at r2
    have em : (nI a).toNatClampNeg = a := nI_clamp (by omega)
    have im : vp_in (nI a) 96 := vp_in_nI (by omega) (by omega)
    exact wx_ak ha hm (br_f (by decide) (rX _ ⟨im, nm_r (e' := upd aK a r) (by rw [em]) (wx_reset hn (fun W' hW' => wc_ok ha (by omega) (rY _ _ ⟨im, nm_r (e' := upd aK a r) (by rw [em]) (wy_reset (fun V' hV' => ⟨rfl, ir_mk0 (ne_K hN a ⟨r1, r2⟩) hW' hV'⟩))⟩)))⟩))
end
section
/-! 21: what is owed of solve and of the answers -/
theorem ns_Spec_01 {n m : Nat} {aS aT aH aC aK : Nat → Int32} {r st tc sf : Int32} {W : Nat → Int32} (h : ns_Spec n m aS aT aH aC aK r st tc sf W) : ns_01 n W := by
  rcases h with h | ⟨_, _, _, _, h | h⟩
  · exact fun v hv => Or.inl (h.2.2.2.2.2 v hv)
  · exact h.2.2.2.2.1
  · exact fun v hv => Or.inl (h.2.2.2.2 v hv)
theorem i_vc_solve {k : Nat} {u : SX} {v : SY} (I : i_Rel k u v) (hk : k + 5 ≤ 2561) : wpX_solve (fun r u' => wpY_solve (fun r' v' => r' = r ∧ i_Rel (k + 5) u' v') v) u := by
  obtain ⟨n, m, st, tc, sf, ec, aS, aT, aH, aC, aK, W, aF, aE, aD, aP, aJ, V, F, T, C, K, D, P, Q, rfl, rfl, hN, h1, hV⟩ := I
  refine wx_solve hN (fun r st tc sf W aF aE aD aP hs => wy_solve hN (fun r' st' tc' sf' ec aJ V F T C K D P Q hs' => ?_))
  obtain ⟨e1, e2, e3, e4, e5⟩ := ns_Spec_u (nx_r hN) hs hs'
  subst e1 e2 e3 e4
  exact ⟨rfl, ir_mk hN (ns_Spec_01 hs) e5⟩
theorem i_vc_getStatus {k : Nat} {u : SX} {v : SY} (I : i_Rel k u v) (hk : k + 5 ≤ 2561) : wpX_getStatus (fun r => wpY_getStatus (fun r' => r' = r ∧ i_Rel (k + 5) u v) v) u := by
  have I' : i_Rel (k + 5) u v := I
  obtain ⟨n, m, st, tc, sf, ec, aS, aT, aH, aC, aK, W, aF, aE, aD, aP, aJ, V, F, T, C, K, D, P, Q, rfl, rfl, hN, h1, hV⟩ := I
  exact ⟨rfl, I'⟩
theorem i_vc_getTotalCost {k : Nat} {u : SX} {v : SY} (I : i_Rel k u v) (hk : k + 5 ≤ 2561) : wpX_getTotalCost (fun r => wpY_getTotalCost (fun r' => r' = r ∧ i_Rel (k + 5) u v) v) u := by
  have I' : i_Rel (k + 5) u v := I
  obtain ⟨n, m, st, tc, sf, ec, aS, aT, aH, aC, aK, W, aF, aE, aD, aP, aJ, V, F, T, C, K, D, P, Q, rfl, rfl, hN, h1, hV⟩ := I
  exact ⟨rfl, I'⟩
theorem i_vc_getShortfall {k : Nat} {u : SX} {v : SY} (I : i_Rel k u v) (hk : k + 5 ≤ 2561) : wpX_getShortfall (fun r => wpY_getShortfall (fun r' => r' = r ∧ i_Rel (k + 5) u v) v) u := by
  have I' : i_Rel (k + 5) u v := I
  obtain ⟨n, m, st, tc, sf, ec, aS, aT, aH, aC, aK, W, aF, aE, aD, aP, aJ, V, F, T, C, K, D, P, Q, rfl, rfl, hN, h1, hV⟩ := I
  exact ⟨rfl, I'⟩
theorem i_vc_inWitness {k : Nat} {u : SX} {v : SY} (I : i_Rel k u v) (hk : k + 5 ≤ 2561) (v1 : Int32) : wpX_inWitness (fun r => wpY_inWitness (fun r' => r' = r ∧ i_Rel (k + 5) u v) v v1) u v1 := by
  have I' : i_Rel (k + 5) u v := I
  obtain ⟨n, m, st, tc, sf, ec, aS, aT, aH, aC, aK, W, aF, aE, aD, aP, aJ, V, F, T, C, K, D, P, Q, rfl, rfl, hN, h1, hV⟩ := I
  have hm := hN.2.2.1
  have hn := hN.2.1
  unfold wpX_inWitness
  rcases wc_ix v1 n with b1 | ⟨a, ha, rfl⟩
  · exact wx_nb b1 (br_t rfl (wc_bad b1 ⟨rfl, I'⟩))
  · have em : (nI a).toNatClampNeg = a := nI_clamp (by omega)
    have im : vp_in (nI a) 24 := vp_in_nI (by omega) (by omega)
    have ev := hV a ha
    refine wx_nk ha hn (br_f (by decide) ⟨im, ?_⟩)
    unfold wpY_inWitness
    dsimp only
    rw [em, ev]
    rcases h1 a ha with q | q
    · exact br_t q (wc_ok ha (by omega) ⟨im, ni_nb (Or.inl q), q, I'⟩)
    · exact br_f (by rw [q]; decide) (wc_ok ha (by omega) ⟨im, ni_nb (Or.inr q), q, I'⟩)
def nc_n (W : Nat → Int32) : Nat → Int32
  | 0 => 0
  | i + 1 => if W i = 0 then nc_n W i else nc_n W i + 1
theorem nc_s (W : Nat → Int32) (i : Nat) : nc_n W (i + 1) = if W i = 0 then nc_n W i else nc_n W i + 1 := rfl
theorem nc_c {W V : Nat → Int32} : ∀ n : Nat, (∀ j, j < n → V j = W j) → nc_n V n = nc_n W n := by
  intro n
  induction n with
  | zero => intro _; rfl
  | succ n ih =>
    intro h
    rw [nc_s, nc_s, h n (by omega), ih (fun j hj => h j (by omega))]
theorem wx_size {n m : Nat} {st tc sf : Int32} {aS aT aH aC aK W aF aE aD aP : Nat → Int32} {post : Int32 → Prop} (hn : n ≤ 24) (h : post (nc_n W n)) : wpX_getWitnessSize post ((nI n), (nI m), st, tc, sf, aS, aT, aH, aC, aK, W, aF, aE, aD, aP) := by
  unfold wpX_getWitnessSize
  refine loop_0 (fun k i s => wX_getWitnessSize_4 post (nI n) (nI m) st tc sf aS aT aH aC aK W aF aE aD aP k s (nI i)) (fun i s => s = nc_n W i) n 0 rfl
    (fun k s hs => br_t (nI_le (Nat.le_refl _) (by omega)) (by rw [hs]; exact h)) (fun k i s hi hs ih => br_f (nI_ge hi (by omega)) ⟨vp_in_nI (by omega) (by omega), ?_⟩)
  rw [nI_clamp (show i < 2 ^ 31 by omega)]
  exact br_c (fun q => nm_r (nI_1 i) (ih _ (by rw [nc_s, if_pos q]; exact hs))) (fun q => nm_e (nm_r (nI_1 i) (ih _ (by rw [nc_s, if_neg q, hs]))))
theorem wy_size {n m : Nat} {st tc sf ec : Int32} {aT aH aC aK aS aJ W F T C K D P Q : Nat → Int32} {post : Int32 → Prop} (hn : n ≤ 24) (h : post (nc_n W n)) : wpY_getWitnessSize post ((nI n), (nI m), st, tc, sf, ec, aT, aH, aC, aK, aS, aJ, W, F, T, C, K, D, P, Q) := by
  unfold wpY_getWitnessSize
  refine loop_0 (fun k i s => wY_getWitnessSize_4 post (nI n) (nI m) st tc sf ec aT aH aC aK aS aJ W F T C K D P Q k s (nI i)) (fun i s => s = nc_n W i) n 0 rfl
    (fun k s hs => br_t (nI_le (Nat.le_refl _) (by omega)) (by rw [hs]; exact h)) (fun k i s hi hs ih => br_f (nI_ge hi (by omega)) ⟨vp_in_nI (by omega) (by omega), ?_⟩)
  rw [nI_clamp (show i < 2 ^ 31 by omega)]
  exact br_c (fun q => nm_r (nI_1 i) (ih _ (by rw [nc_s, if_pos q]; exact hs))) (fun q => nm_e (nm_r (nI_1 i) (ih _ (by rw [nc_s, if_neg q, hs]))))
theorem i_vc_getWitnessSize {k : Nat} {u : SX} {v : SY} (I : i_Rel k u v) (hk : k + 5 ≤ 2561) : wpX_getWitnessSize (fun r => wpY_getWitnessSize (fun r' => r' = r ∧ i_Rel (k + 5) u v) v) u := by
  have I' : i_Rel (k + 5) u v := I
  obtain ⟨n, m, st, tc, sf, ec, aS, aT, aH, aC, aK, W, aF, aE, aD, aP, aJ, V, F, T, C, K, D, P, Q, rfl, rfl, hN, h1, hV⟩ := I
  exact wx_size hN.2.1 (wy_size hN.2.1 ⟨nc_c n hV, I'⟩)
theorem i_vc_getNodeCount {k : Nat} {u : SX} {v : SY} (I : i_Rel k u v) (hk : k + 5 ≤ 2561) : wpX_getNodeCount (fun r => wpY_getNodeCount (fun r' => r' = r ∧ i_Rel (k + 5) u v) v) u := by
  have I' : i_Rel (k + 5) u v := I
  obtain ⟨n, m, st, tc, sf, ec, aS, aT, aH, aC, aK, W, aF, aE, aD, aP, aJ, V, F, T, C, K, D, P, Q, rfl, rfl, hN, h1, hV⟩ := I
  exact ⟨rfl, I'⟩
theorem i_vc_getArcCount {k : Nat} {u : SX} {v : SY} (I : i_Rel k u v) (hk : k + 5 ≤ 2561) : wpX_getArcCount (fun r => wpY_getArcCount (fun r' => r' = r ∧ i_Rel (k + 5) u v) v) u := by
  have I' : i_Rel (k + 5) u v := I
  obtain ⟨n, m, st, tc, sf, ec, aS, aT, aH, aC, aK, W, aF, aE, aD, aP, aJ, V, F, T, C, K, D, P, Q, rfl, rfl, hN, h1, hV⟩ := I
  exact ⟨rfl, I'⟩
theorem i_vc_getSupply {k : Nat} {u : SX} {v : SY} (I : i_Rel k u v) (hk : k + 5 ≤ 2561) (v1 : Int32) : wpX_getSupply (fun r => wpY_getSupply (fun r' => r' = r ∧ i_Rel (k + 5) u v) v v1) u v1 := by
  have I' : i_Rel (k + 5) u v := I
  obtain ⟨n, m, st, tc, sf, ec, aS, aT, aH, aC, aK, W, aF, aE, aD, aP, aJ, V, F, T, C, K, D, P, Q, rfl, rfl, hN, h1, hV⟩ := I
  have hm := hN.2.2.1
  have hn := hN.2.1
  unfold wpX_getSupply
  rcases wc_ix v1 n with b1 | ⟨a, ha, rfl⟩
  · exact wx_nb b1 (br_t rfl (wc_bad b1 ⟨rfl, I'⟩))
  · have im : vp_in (nI a) 24 := vp_in_nI (by omega) (by omega)
    exact wx_nk ha hn (br_f (by decide) ⟨im, wc_ok ha (by omega) ⟨im, rfl, I'⟩⟩)
theorem i_vc_getArc {k : Nat} {u : SX} {v : SY} (I : i_Rel k u v) (hk : k + 5 ≤ 2561) (v1 : Int32) (v2 : Int32) : wpX_getArc (fun r => wpY_getArc (fun r' => r' = r ∧ i_Rel (k + 5) u v) v v1 v2) u v1 v2 := by
  have I' : i_Rel (k + 5) u v := I
  obtain ⟨n, m, st, tc, sf, ec, aS, aT, aH, aC, aK, W, aF, aE, aD, aP, aJ, V, F, T, C, K, D, P, Q, rfl, rfl, hN, h1, hV⟩ := I
  have hm := hN.2.2.1
  have hn := hN.2.1
  unfold wpX_getArc
  rcases wc_ix v1 m with b1 | ⟨a, ha, rfl⟩
  · exact wx_ab b1 (br_t rfl (wc_bad b1 ⟨rfl, I'⟩))
  · have im : vp_in (nI a) 96 := vp_in_nI (by omega) (by omega)
    refine wx_ak ha hm (br_f (by decide) ?_)
    by_cases q0 : v2 = 0
    · have l0 : ¬ v2 < 0 := by rw [q0]; decide
      have l3 : ¬ 3 < v2 := by rw [q0]; decide
      exact br_f l0 (br_f l3 (br_t q0 ⟨im, wc_ok ha (by omega) (br_t q0 ⟨im, rfl, I'⟩)⟩))
    · by_cases q1 : v2 = 1
      · have l0 : ¬ v2 < 0 := by rw [q1]; decide
        have l3 : ¬ 3 < v2 := by rw [q1]; decide
        exact br_f l0 (br_f l3 (br_f q0 (br_t q1 ⟨im, wc_ok ha (by omega) (br_f q0 (br_t q1 ⟨im, rfl, I'⟩))⟩)))
      · by_cases q2 : v2 = 2
        · have l0 : ¬ v2 < 0 := by rw [q2]; decide
          have l3 : ¬ 3 < v2 := by rw [q2]; decide
          exact br_f l0 (br_f l3 (br_f q0 (br_f q1 (br_t q2 ⟨im, wc_ok ha (by omega) (br_f q0 (br_f q1 (br_t q2 ⟨im, rfl, I'⟩)))⟩))))
        · by_cases q3 : v2 = 3
          · have l0 : ¬ v2 < 0 := by rw [q3]; decide
            have l3 : ¬ 3 < v2 := by rw [q3]; decide
            exact br_f l0 (br_f l3 (br_f q0 (br_f q1 (br_f q2 (br_t q3 ⟨im, wc_ok ha (by omega) (br_f q0 (br_f q1 (br_f q2 (br_t q3 ⟨im, rfl, I'⟩))))⟩)))))
          · exact br_c (fun _ => wc_ok ha (by omega) (br_f q0 (br_f q1 (br_f q2 (br_f q3 ⟨rfl, I'⟩))))) (fun _ => br_c (fun _ => wc_ok ha (by omega) (br_f q0 (br_f q1 (br_f q2 (br_f q3 ⟨rfl, I'⟩))))) (fun _ => br_f q0 (br_f q1 (br_f q2 (br_f q3 trivial)))))
end
