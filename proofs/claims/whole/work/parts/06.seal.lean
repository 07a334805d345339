/-! 06: the class between two pushes; the seal of both -/
def ns_XI (n m : Nat) (tl hd : Nat → Nat) (b c cap x e : Nat → Int) : Prop :=
  (∀ a, a < m → 0 ≤ x a ∧ x a ≤ cap a) ∧ (∀ v, v < n → e v = ns_exc b tl hd x m v) ∧ (∃ π, ns_Pot m (ns_xf tl hd) (ns_xf hd tl) (ns_xl c) (ns_xr cap x) π)
theorem ns_XI_nn {n m : Nat} {tl hd : Nat → Nat} {b c cap x e : Nat → Int} (h : ns_XI n m tl hd b c cap x e) : ∀ f, f < 2 * m → 0 ≤ ns_xr cap x f := by
  intro f hf
  rcases ns_ev f with ⟨k, e1, _⟩ | ⟨k, e1, _⟩
  · have := h.1 k (by omega)
    rw [e1, ns_xr_0]; omega
  · have := h.1 k (by omega)
    rw [e1, ns_xr_1]; omega
theorem ns_XI_0 {n m : Nat} {tl hd : Nat → Nat} {b c cap x e : Nat → Int} (hcap : ∀ a, a < m → 0 ≤ cap a) (hx : ∀ a, a < m → x a = ns_y0 c cap a) (he : ∀ v, v < n → e v = ns_exc b tl hd x m v) :
    ns_XI n m tl hd b c cap x e := by
  refine ⟨fun a ha => ?_, he, fun _ => 0, fun f hf hr => ?_⟩
  · have := hcap a ha
    rw [hx a ha]
    unfold ns_y0
    split <;> omega
  · show (0 : Int) ≤ 0 + ns_xl c f
    rcases ns_ev f with ⟨k, e1, _⟩ | ⟨k, e1, _⟩
    · rw [e1, ns_xr_0, hx k (by omega)] at hr
      rw [e1, ns_xl_0]
      unfold ns_y0 at hr
      split at hr <;> omega
    · rw [e1, ns_xr_1, hx k (by omega)] at hr
      rw [e1, ns_xl_1]
      unfold ns_y0 at hr
      split at hr <;> omega
theorem ns_XI_push {n m : Nat} {tl hd : Nat → Nat} {b c cap x x' e e' π : Nat → Int} {U hi a : Int} {d : Nat → Int} {p : Nat → Option Nat} {es : List Nat} {t r : Nat} {src : Nat → Bool}
    (hG : ns_G n m (ns_xf tl hd) (ns_xf hd tl) (ns_xl c)) (hI : ns_XI n m tl hd b c cap x e)
    (hB : ns_B n m (ns_xf tl hd) (ns_xf hd tl) (ns_xl c) (ns_xr cap x) U src hi d p) (hU : hi + 50 < U) (hC : ns_C m (ns_xf tl hd) (ns_xf hd tl) (ns_xl c) (ns_xr cap x) U (2 * m) d)
    (hP : ns_Pot m (ns_xf tl hd) (ns_xf hd tl) (ns_xl c) (ns_xr cap x) π)
    (ht : t < n) (hrn : r < n) (hp : ns_path (ns_xf tl hd) p r t es) (ha : 0 ≤ a) (hle : ∀ f, f ∈ es → a ≤ ns_xr cap x f)
    (h1 : a ≤ - e t) (h2 : a ≤ e r) (h3 : e t < 0) (h4 : 0 < e r)
    (hx' : ns_xr cap x' = ns_pu a es (ns_xr cap x)) (he' : ∀ v, v < n → e' v = if v = t then e t + a else if v = r then e r - a else e v) :
    ns_XI n m tl hd b c cap x' e' ∧ ns_P e' n = ns_P e n - a := by
  have nn := ns_XI_nn hI
  obtain ⟨i1, i2, i3⟩ := hI
  obtain ⟨a1, a2, a3⟩ := ns_aug hG hB hU hC hP ht hp ha hle nn
  rw [← hx'] at a1 a2 a3
  have htr : t ≠ r := by intro k; rw [k] at h3; omega
  refine ⟨⟨fun k hk => ?_, fun v hv => ?_, a2⟩, ?_⟩
  · have q1 := a1 (2 * k) (by omega)
    have q2 := a1 (2 * k + 1) (by omega)
    rw [ns_xr_0] at q1
    rw [ns_xr_1] at q2
    omega
  · have q := a3 (ns_wv (ns_xf tl hd) (ns_xf hd tl) v) (fun u => ns_ind u v) (ns_wv_fl hG v) (fun e _ => rfl)
    have o := i2 v hv
    rw [ns_x_exc b tl hd cap x m v] at o
    rw [he' v hv, ns_x_exc b tl hd cap x' m v, q]
    by_cases k : v = t
    · rw [if_pos k, k, ns_ind_1, ns_ind_0 (fun z => htr z.symm)]
      rw [k] at o
      omega
    · rw [if_neg k, ns_ind_0 (fun z => k z.symm)]
      by_cases k' : v = r
      · rw [if_pos k', k', ns_ind_1]
        rw [k'] at o
        omega
      · rw [if_neg k', ns_ind_0 (fun z => k' z.symm)]
        omega
  · unfold ns_P
    rw [ns_sm_u (f := fun v => ns_ps (e v)) (g := fun v => ns_ps (e' v)) r n hrn (fun v hv hn => by
      show ns_ps (e' v) = ns_ps (e v)
      rw [he' v hv, if_neg hn]
      by_cases k : v = t
      · rw [if_pos k, k]
        unfold ns_ps
        rw [if_neg (by omega), if_neg (by omega)]
      · rw [if_neg k])]
    rw [he' r hrn, if_neg (fun z => htr z.symm), if_pos rfl]
    unfold ns_ps
    rw [if_pos h4]
    split <;> omega
/-- at the end no deficit is reached -/
theorem ns_X_cl {n m : Nat} {tl hd : Nat → Nat} {c cap x e : Nat → Int} {U hi : Int} {d : Nat → Int} {p : Nat → Option Nat} {src : Nat → Bool}
    (hG : ns_G n m (ns_xf tl hd) (ns_xf hd tl) (ns_xl c))
    (hB : ns_B n m (ns_xf tl hd) (ns_xf hd tl) (ns_xl c) (ns_xr cap x) U src hi d p) (hU : hi + 50 < U) (hU0 : 0 < U) (hC : ns_C m (ns_xf tl hd) (ns_xf hd tl) (ns_xl c) (ns_xr cap x) U (2 * m) d)
    (hs : ∀ v, v < n → 0 < e v → src v = true) (hd0 : ∀ v, v < n → e v < 0 → d v = U) : ns_Cl n m tl hd cap e x (fun v => decide (d v = U)) := by
  refine ⟨fun v hv k => decide_eq_true (hd0 v hv k), fun v hv k => ?_, fun a ha k w => ?_, fun a ha k w => ?_⟩
  · have k : d v = U := of_decide_eq_true k
    by_cases q : 0 < e v
    · have := hB.2.2.2.1 v hv (hs v hv q)
      omega
    · omega
  · have w : d (hd a) = U := of_decide_eq_true w
    have z := ns_CU (e := 2 * a) hG hB hU hC (by omega) (by rw [ns_xr_0]; omega) (by rw [ns_xf_0]; exact w)
    rw [ns_xf_0] at z
    exact decide_eq_true z
  · have w : d (tl a) = U := of_decide_eq_true w
    have z := ns_CU (e := 2 * a + 1) hG hB hU hC (by omega) (by rw [ns_xr_1]; omega) (by rw [ns_xf_1]; exact w)
    rw [ns_xf_1] at z
    exact decide_eq_true z
/-- a set closed in the class's graph, and back -/
theorem ns_X_cA {m : Nat} {tl hd : Nat → Nat} {cap x : Nat → Int} {Z : Nat → Bool} :
    ns_cA m (ns_xf tl hd) (ns_xf hd tl) (ns_xr cap x) (2 * m) Z ↔ (∀ a, a < m → x a < cap a → Z (hd a) = true → Z (tl a) = true) ∧ (∀ a, a < m → 0 < x a → Z (tl a) = true → Z (hd a) = true) := by
  constructor
  · intro h
    refine ⟨fun a ha k w => ?_, fun a ha k w => ?_⟩
    · have z := h (2 * a) (by omega) (by omega) (by rw [ns_xr_0]; omega) (by rw [ns_xf_0]; exact w)
      rw [ns_xf_0] at z
      exact z
    · have z := h (2 * a + 1) (by omega) (by omega) (by rw [ns_xr_1]; omega) (by rw [ns_xf_1]; exact w)
      rw [ns_xf_1] at z
      exact z
  · intro ⟨h1, h2⟩ e he _ hr w
    rcases ns_ev e with ⟨k, e1, _⟩ | ⟨k, e1, _⟩
    · rw [e1, ns_xr_0] at hr
      rw [e1, ns_xf_0] at w
      rw [e1, ns_xf_0]
      exact h1 k (by omega) (by omega) w
    · rw [e1, ns_xr_1] at hr
      rw [e1, ns_xf_1] at w
      rw [e1, ns_xf_1]
      exact h2 k (by omega) (by omega) w
/-- what a solve over a balanced network ends with, on either side -/
def ns_Fin (n m : Nat) (tl hd : Nat → Nat) (b c cap x : Nat → Int) : Prop :=
  (∀ a, a < m → 0 ≤ x a ∧ x a ≤ cap a) ∧ (∃ Z, ns_Cl n m tl hd cap (fun v => ns_exc b tl hd x m v) x Z) ∧
  (∃ π : Nat → Int, ∀ a, a < m → (x a < cap a → π (hd a) ≤ π (tl a) + c a) ∧ (0 < x a → π (tl a) ≤ π (hd a) - c a))
def ns_Wit (n m : Nat) (tl hd : Nat → Nat) (b cap x : Nat → Int) (W : Nat → Bool) : Prop :=
  ns_Cl n m tl hd cap (fun v => ns_exc b tl hd x m v) x W ∧ ∀ Z, ns_Cl n m tl hd cap (fun v => ns_exc b tl hd x m v) x Z → ∀ v, v < n → W v = true → Z v = true
theorem ns_same {n m : Nat} {tl hd : Nat → Nat} {b c cap x y : Nat → Int} (hr : ∀ a, a < m → hd a < n ∧ tl a < n) (hb : ns_sm b n = 0)
    (hx : ns_Fin n m tl hd b c cap x) (hy : ns_Fin n m tl hd b c cap y) :
    ns_P (fun v => ns_exc b tl hd x m v) n = ns_P (fun v => ns_exc b tl hd y m v) n ∧
    (ns_P (fun v => ns_exc b tl hd x m v) n ≤ 0 → ns_sm (fun a => c a * x a) m = ns_sm (fun a => c a * y a) m) ∧
    (∀ W W', ns_Wit n m tl hd b cap x W → ns_Wit n m tl hd b cap y W' → ∀ v, v < n → W v = W' v) := by
  obtain ⟨x1, ⟨Zx, x2⟩, πx, x3⟩ := hx
  obtain ⟨y1, ⟨Zy, y2⟩, πy, y3⟩ := hy
  have dx := ns_dual (ex := fun v => ns_exc b tl hd x m v) (ey := fun v => ns_exc b tl hd y m v) hr y1 hb (fun _ _ => rfl) (fun _ _ => rfl) x2
  have dy := ns_dual (ex := fun v => ns_exc b tl hd y m v) (ey := fun v => ns_exc b tl hd x m v) hr x1 hb (fun _ _ => rfl) (fun _ _ => rfl) y2
  have eP : ns_P (fun v => ns_exc b tl hd x m v) n = ns_P (fun v => ns_exc b tl hd y m v) n := by omega
  refine ⟨eP, fun h0 => ?_, fun W W' hW hW' v hv => ?_⟩
  · have ex := ns_P_0 (e := fun v => ns_exc b tl hd x m v) h0 (ns_exc_tot hr hb)
    have ey := ns_P_0 (e := fun v => ns_exc b tl hd y m v) (by omega) (ns_exc_tot hr hb)
    have a1 := ns_cost hr y1 ex ey x3
    have a2 := ns_cost hr x1 ey ex y3
    omega
  · have c1 := (ns_dual (ex := fun v => ns_exc b tl hd x m v) (ey := fun v => ns_exc b tl hd y m v) hr y1 hb (fun _ _ => rfl) (fun _ _ => rfl) hW.1).2 (by omega)
    have c2 := (ns_dual (ex := fun v => ns_exc b tl hd y m v) (ey := fun v => ns_exc b tl hd x m v) hr x1 hb (fun _ _ => rfl) (fun _ _ => rfl) hW'.1).2 (by omega)
    have w1 := hW'.2 W c1 v hv
    have w2 := hW.2 W' c2 v hv
    cases h1 : W v with
    | true => rw [w2 h1]
    | false =>
      cases h2 : W' v with
      | false => rfl
      | true => rw [w1 h2] at h1; cases h1
theorem ns_Pot_x {m : Nat} {tl hd : Nat → Nat} {c cap x π : Nat → Int} (h : ns_Pot m (ns_xf tl hd) (ns_xf hd tl) (ns_xl c) (ns_xr cap x) π) :
    ∀ a, a < m → (x a < cap a → π (hd a) ≤ π (tl a) + c a) ∧ (0 < x a → π (tl a) ≤ π (hd a) - c a) := by
  intro a ha
  have z := h (2 * a) (by omega)
  have z' := h (2 * a + 1) (by omega)
  rw [ns_xf_0, ns_xf_0, ns_xl_0, ns_xr_0] at z
  rw [ns_xf_1, ns_xf_1, ns_xl_1, ns_xr_1] at z'
  exact ⟨fun k => z (by omega), fun k => by have := z' k; omega⟩
theorem ns_Pot_y {n m : Nat} {tl hd : Nat → Nat} {c cap adj : Nat → Int} {fr tt : Nat → Nat} {ln rc π : Nat → Int} (hY : ns_YE n m tl hd c adj fr tt ln) (hs : ∀ a, a < m → rc (2 * a) + rc (2 * a + 1) = cap a)
    (h : ns_Pot (m + ns_cnt adj n) fr tt ln rc π) :
    ∀ a, a < m → (ns_yy c cap rc a < cap a → π (hd a) ≤ π (tl a) + c a) ∧ (0 < ns_yy c cap rc a → π (tl a) ≤ π (hd a) - c a) := by
  intro a ha
  obtain ⟨y1, y2, y3⟩ := hY
  have z := h (2 * a) (by omega)
  have z' := h (2 * a + 1) (by omega)
  have s := hs a ha
  obtain ⟨b1, b2, b3⟩ := y3 a (by omega)
  rw [b1, b2, b3] at z'
  unfold ns_yy
  by_cases q : c a < 0
  · obtain ⟨d1, d2, d3⟩ := (y1 a ha).1 q
    rw [d1, d2, d3] at z z'
    rw [if_pos q]
    exact ⟨fun k => by have := z' (by omega); omega, fun k => by have := z (by omega); omega⟩
  · obtain ⟨d1, d2, d3⟩ := (y1 a ha).2 q
    rw [d1, d2, d3] at z z'
    rw [if_neg q]
    exact ⟨fun k => by have := z (by omega); omega, fun k => by have := z' (by omega); omega⟩
