/-! 05: what the reference's residual network says of a flow on the arcs -/
def ns_y0 (c cap : Nat → Int) (a : Nat) : Int := if c a < 0 then cap a else 0
def ns_yy (c cap rc : Nat → Int) (a : Nat) : Int := if c a < 0 then cap a - rc (2 * a + 1) else rc (2 * a + 1)
def ns_sg (adj : Nat → Int) (m : Nat) (rc : Nat → Int) (u : Nat) : Int := if 0 < adj u then rc (2 * (m + ns_cnt adj u) + 1) else if adj u < 0 then - rc (2 * (m + ns_cnt adj u) + 1) else 0
theorem ns_y_net {n m : Nat} {tl hd : Nat → Nat} {b c cap adj : Nat → Int} {fr tt : Nat → Nat} {ln rc : Nat → Int} (hY : ns_YE n m tl hd c adj fr tt ln)
    (w : Nat) (hw : w < n) : ns_li (ns_wv fr tt w) rc (m + ns_cnt adj n) = (ns_exc b tl hd (ns_yy c cap rc) m w - ns_exc b tl hd (ns_y0 c cap) m w) + ns_sg adj m rc w := by
  obtain ⟨y1, y2, y3⟩ := hY
  unfold ns_li
  rw [ns_cnt_sum]
  have e1 : ns_sm (fun a => ns_yy c cap rc a * (ns_ind (hd a) w - ns_ind (tl a) w)) m = ns_sm (fun a => ns_y0 c cap a * (ns_ind (hd a) w - ns_ind (tl a) w)) m + ns_sm (fun j => ns_wv fr tt w (2 * j) * rc (2 * j + 1)) m := by
    rw [← ns_sm_add]
    refine ns_sm_c m (fun a ha => ?_)
    show ns_yy c cap rc a * (ns_ind (hd a) w - ns_ind (tl a) w) = ns_y0 c cap a * (ns_ind (hd a) w - ns_ind (tl a) w) + ns_wv fr tt w (2 * a) * rc (2 * a + 1)
    unfold ns_yy ns_y0 ns_wv
    by_cases k : c a < 0
    · obtain ⟨b1, b2, b3⟩ := (y1 a ha).1 k
      rw [if_pos k, if_pos k, b1, b2, Int.sub_mul, Int.mul_comm (rc _), ← Int.neg_sub (ns_ind (hd a) w), Int.neg_mul]
      omega
    · obtain ⟨b1, b2, b3⟩ := (y1 a ha).2 k
      rw [if_neg k, if_neg k, b1, b2, Int.zero_mul, Int.mul_comm]
      omega
  have e2 : ns_sm (fun u => if adj u = 0 then 0 else ns_wv fr tt w (2 * (m + ns_cnt adj u)) * rc (2 * (m + ns_cnt adj u) + 1)) n = ns_sm (fun u => ns_sg adj m rc u * ns_ind w u) n := by
    refine ns_sm_c n (fun u hu => ?_)
    show (if adj u = 0 then 0 else ns_wv fr tt w (2 * (m + ns_cnt adj u)) * rc (2 * (m + ns_cnt adj u) + 1)) = ns_sg adj m rc u * ns_ind w u
    unfold ns_sg ns_wv
    by_cases k : adj u = 0
    · rw [if_pos k, if_neg (by omega), if_neg (by omega), Int.zero_mul]
    · rw [if_neg k]
      by_cases k' : 0 < adj u
      · obtain ⟨b1, b2, b3⟩ := (y2 u hu).1 k'
        rw [if_pos k', b1, b2, ns_ind_0 (a := n) (b := w) (by omega), ns_ind_c u w, Int.sub_zero, Int.mul_comm]
      · obtain ⟨b1, b2, b3⟩ := (y2 u hu).2 (by omega)
        rw [if_neg k', if_pos (by omega), b1, b2, ns_ind_0 (a := n + 1) (b := w) (by omega), ns_ind_c u w, Int.zero_sub, Int.neg_mul, Int.neg_mul, Int.mul_comm]
  rw [e2, ns_sm_ind (fun u => ns_sg adj m rc u) w n hw]
  unfold ns_exc
  omega
theorem ns_y_src {n m : Nat} {tl hd : Nat → Nat} {c adj : Nat → Int} {fr tt : Nat → Nat} {ln rc : Nat → Int} (hr : ∀ a, a < m → hd a < n ∧ tl a < n) (hY : ns_YE n m tl hd c adj fr tt ln) :
    ns_li (ns_wv fr tt n) rc (m + ns_cnt adj n) = - ns_sm (fun u => if 0 < adj u then rc (2 * (m + ns_cnt adj u) + 1) else 0) n := by
  obtain ⟨y1, y2, y3⟩ := hY
  unfold ns_li
  rw [ns_cnt_sum]
  have e1 : ns_sm (fun j => ns_wv fr tt n (2 * j) * rc (2 * j + 1)) m = 0 := by
    refine ns_sm_z m (fun a ha => ?_)
    show ns_wv fr tt n (2 * a) * rc (2 * a + 1) = 0
    have h1 := hr a ha
    unfold ns_wv
    by_cases k : c a < 0
    · obtain ⟨b1, b2, b3⟩ := (y1 a ha).1 k
      rw [b1, b2, ns_ind_0 (by omega), ns_ind_0 (by omega), Int.sub_self, Int.zero_mul]
    · obtain ⟨b1, b2, b3⟩ := (y1 a ha).2 k
      rw [b1, b2, ns_ind_0 (by omega), ns_ind_0 (by omega), Int.sub_self, Int.zero_mul]
  have e2 : ns_sm (fun u => if adj u = 0 then 0 else ns_wv fr tt n (2 * (m + ns_cnt adj u)) * rc (2 * (m + ns_cnt adj u) + 1)) n = ns_sm (fun u => (-1) * (if 0 < adj u then rc (2 * (m + ns_cnt adj u) + 1) else 0)) n := by
    refine ns_sm_c n (fun u hu => ?_)
    show (if adj u = 0 then 0 else ns_wv fr tt n (2 * (m + ns_cnt adj u)) * rc (2 * (m + ns_cnt adj u) + 1)) = (-1) * (if 0 < adj u then rc (2 * (m + ns_cnt adj u) + 1) else 0)
    unfold ns_wv
    by_cases k : adj u = 0
    · rw [if_pos k, if_neg (by omega)]; rfl
    · rw [if_neg k]
      by_cases k' : 0 < adj u
      · obtain ⟨b1, b2, b3⟩ := (y2 u hu).1 k'
        rw [if_pos k', b1, b2, ns_ind_0 (a := u) (b := n) (by omega), ns_ind_1]
        omega
      · obtain ⟨b1, b2, b3⟩ := (y2 u hu).2 (by omega)
        rw [if_neg k', b1, b2, ns_ind_0 (a := n + 1) (b := n) (by omega), ns_ind_0 (a := u) (b := n) (by omega)]
        omega
  rw [e1, e2, ns_sm_mul]
  omega
theorem ns_y_cost {n m : Nat} {tl hd : Nat → Nat} {c cap adj : Nat → Int} {fr tt : Nat → Nat} {ln rc : Nat → Int} (hY : ns_YE n m tl hd c adj fr tt ln) :
    ns_li ln rc (m + ns_cnt adj n) = ns_sm (fun a => c a * ns_yy c cap rc a) m - ns_sm (fun a => c a * ns_y0 c cap a) m := by
  obtain ⟨y1, y2, y3⟩ := hY
  unfold ns_li
  rw [ns_cnt_sum]
  have e1 : ns_sm (fun a => c a * ns_yy c cap rc a) m = ns_sm (fun a => c a * ns_y0 c cap a) m + ns_sm (fun j => ln (2 * j) * rc (2 * j + 1)) m := by
    rw [← ns_sm_add]
    refine ns_sm_c m (fun a ha => ?_)
    show c a * ns_yy c cap rc a = c a * ns_y0 c cap a + ln (2 * a) * rc (2 * a + 1)
    unfold ns_yy ns_y0
    by_cases k : c a < 0
    · obtain ⟨b1, b2, b3⟩ := (y1 a ha).1 k
      rw [if_pos k, if_pos k, b3, Int.mul_sub, Int.neg_mul]
      omega
    · obtain ⟨b1, b2, b3⟩ := (y1 a ha).2 k
      rw [if_neg k, if_neg k, b3, Int.mul_zero]
      omega
  have e2 : ns_sm (fun u => if adj u = 0 then 0 else ln (2 * (m + ns_cnt adj u)) * rc (2 * (m + ns_cnt adj u) + 1)) n = 0 := by
    refine ns_sm_z n (fun u hu => ?_)
    show (if adj u = 0 then 0 else ln (2 * (m + ns_cnt adj u)) * rc (2 * (m + ns_cnt adj u) + 1)) = 0
    by_cases k : adj u = 0
    · rw [if_pos k]
    · rw [if_neg k]
      by_cases k' : 0 < adj u
      · obtain ⟨b1, b2, b3⟩ := (y2 u hu).1 k'
        rw [b3, Int.zero_mul]
      · obtain ⟨b1, b2, b3⟩ := (y2 u hu).2 (by omega)
        rw [b3, Int.zero_mul]
  rw [e2]
  omega
/-- the reference between two pushes: F is what has flowed, Q what it cost -/
def ns_YI (n m : Nat) (cap adj : Nat → Int) (fr tt : Nat → Nat) (ln rc : Nat → Int) (F Q : Int) : Prop :=
  (∀ e, e < 2 * (m + ns_cnt adj n) → 0 ≤ rc e) ∧
  (∀ a, a < m → rc (2 * a) + rc (2 * a + 1) = cap a) ∧
  (∀ v, v < n → (0 < adj v → rc (2 * (m + ns_cnt adj v)) + rc (2 * (m + ns_cnt adj v) + 1) = adj v) ∧ (adj v < 0 → rc (2 * (m + ns_cnt adj v)) + rc (2 * (m + ns_cnt adj v) + 1) = - adj v)) ∧
  (∀ v, v < n → ns_li (ns_wv fr tt v) rc (m + ns_cnt adj n) = 0) ∧
  ns_li (ns_wv fr tt n) rc (m + ns_cnt adj n) = - F ∧ ns_li ln rc (m + ns_cnt adj n) = Q ∧
  (∃ π, ns_Pot (m + ns_cnt adj n) fr tt ln rc π)
theorem ns_YI_0 {n m : Nat} {tl hd : Nat → Nat} {c cap adj : Nat → Int} {fr tt : Nat → Nat} {ln rc : Nat → Int} (hY : ns_YE n m tl hd c adj fr tt ln)
    (hcap : ∀ a, a < m → 0 ≤ cap a) (h1 : ∀ a, a < m → rc (2 * a) = cap a) (h2 : ∀ v, v < n → (0 < adj v → rc (2 * (m + ns_cnt adj v)) = adj v) ∧ (adj v < 0 → rc (2 * (m + ns_cnt adj v)) = - adj v))
    (h3 : ∀ j, j < m + ns_cnt adj n → rc (2 * j + 1) = 0) : ns_YI n m cap adj fr tt ln rc 0 0 := by
  have cl : ∀ v, v < n → adj v ≠ 0 → m + ns_cnt adj v < m + ns_cnt adj n := fun v hv hz => by have := ns_cnt_lt hv hz; omega
  have z : ∀ w : Nat → Int, ns_li w rc (m + ns_cnt adj n) = 0 := by
    intro w
    refine ns_sm_z _ (fun j hj => ?_)
    show w (2 * j) * rc (2 * j + 1) = 0
    rw [h3 j hj, Int.mul_zero]
  have ev : ∀ j, j < m + ns_cnt adj n → 0 ≤ rc (2 * j) := by
    intro j hj
    rcases ns_cnt_in n j hj with k | ⟨u, hu, hz, k⟩
    · rw [h1 j k]; exact hcap j k
    · rw [k]
      by_cases hk : 0 < adj u
      · rw [(h2 u hu).1 hk]; omega
      · rw [(h2 u hu).2 (by omega)]; omega
  refine ⟨fun e he => ?_, fun a ha => ?_, fun v hv => ⟨fun k => ?_, fun k => ?_⟩, fun v _ => z _, z _, z _, fun _ => 0, fun e he hr => ?_⟩
  · rcases ns_ev e with ⟨k, e1, _⟩ | ⟨k, e1, _⟩
    · rw [e1]; exact ev k (by omega)
    · rw [e1, h3 k (by omega)]; exact Int.le_refl _
  · rw [h1 a ha, h3 a (by omega)]; omega
  · rw [(h2 v hv).1 k, h3 _ (cl v hv (by omega))]; omega
  · rw [(h2 v hv).2 k, h3 _ (cl v hv (by omega))]; omega
  · rcases ns_ev e with ⟨k, e1, _⟩ | ⟨k, e1, _⟩
    · rw [e1]
      obtain ⟨y1, y2, y3⟩ := hY
      show (0 : Int) ≤ 0 + ln (2 * k)
      rcases ns_cnt_in (adj := adj) (m := m) n k (by omega) with q | ⟨u, hu, hz, q⟩
      · by_cases hk : c k < 0
        · rw [((y1 k q).1 hk).2.2]; omega
        · rw [((y1 k q).2 hk).2.2]; omega
      · rw [q]
        by_cases hk : 0 < adj u
        · rw [((y2 u hu).1 hk).2.2]; omega
        · rw [((y2 u hu).2 (by omega)).2.2]; omega
    · rw [e1, h3 k (by omega)] at hr
      omega
/-- what the network between two pushes says of the flow on the arcs -/
theorem ns_YI_flow {n m : Nat} {tl hd : Nat → Nat} {b c cap adj : Nat → Int} {fr tt : Nat → Nat} {ln rc : Nat → Int} {F Q : Int} (hr : ∀ a, a < m → hd a < n ∧ tl a < n)
    (hY : ns_YE n m tl hd c adj fr tt ln) (hadj : ∀ v, v < n → adj v = ns_exc b tl hd (ns_y0 c cap) m v) (hI : ns_YI n m cap adj fr tt ln rc F Q) :
    (∀ a, a < m → 0 ≤ ns_yy c cap rc a ∧ ns_yy c cap rc a ≤ cap a) ∧
    (∀ v, v < n → (0 < adj v → ns_exc b tl hd (ns_yy c cap rc) m v = rc (2 * (m + ns_cnt adj v)) ∧ 0 ≤ rc (2 * (m + ns_cnt adj v))) ∧
      (adj v < 0 → ns_exc b tl hd (ns_yy c cap rc) m v = - rc (2 * (m + ns_cnt adj v)) ∧ 0 ≤ rc (2 * (m + ns_cnt adj v))) ∧ (adj v = 0 → ns_exc b tl hd (ns_yy c cap rc) m v = 0)) ∧
    ns_P (fun v => ns_exc b tl hd (ns_yy c cap rc) m v) n = ns_P adj n - F ∧
    ns_sm (fun a => c a * ns_yy c cap rc a) m = ns_sm (fun a => c a * ns_y0 c cap a) m + Q := by
  obtain ⟨i1, i2, i3, i4, i5, i6, i7⟩ := hI
  have cl : ∀ v, v < n → adj v ≠ 0 → m + ns_cnt adj v < m + ns_cnt adj n := fun v hv hz => by have := ns_cnt_lt hv hz; omega
  have f2 : ∀ v, v < n → (0 < adj v → ns_exc b tl hd (ns_yy c cap rc) m v = rc (2 * (m + ns_cnt adj v)) ∧ 0 ≤ rc (2 * (m + ns_cnt adj v))) ∧
      (adj v < 0 → ns_exc b tl hd (ns_yy c cap rc) m v = - rc (2 * (m + ns_cnt adj v)) ∧ 0 ≤ rc (2 * (m + ns_cnt adj v))) ∧ (adj v = 0 → ns_exc b tl hd (ns_yy c cap rc) m v = 0) := by
    intro v hv
    have a := ns_y_net (b := b) (cap := cap) (rc := rc) hY v hv
    rw [i4 v hv, ← hadj v hv] at a
    unfold ns_sg at a
    refine ⟨fun k => ?_, fun k => ?_, fun k => ?_⟩
    · rw [if_pos k] at a
      have p := (i3 v hv).1 k
      have q := i1 (2 * (m + ns_cnt adj v)) (by have := cl v hv (by omega); omega)
      exact ⟨by omega, q⟩
    · rw [if_neg (by omega), if_pos k] at a
      have p := (i3 v hv).2 k
      have q := i1 (2 * (m + ns_cnt adj v)) (by have := cl v hv (by omega); omega)
      exact ⟨by omega, q⟩
    · rw [if_neg (by omega), if_neg (by omega)] at a
      omega
  refine ⟨fun a ha => ?_, f2, ?_, ?_⟩
  · have p := i2 a ha
    have q := i1 (2 * a) (by omega)
    have q' := i1 (2 * a + 1) (by omega)
    unfold ns_yy
    split <;> omega
  · have s := ns_y_src (rc := rc) hr hY
    rw [i5] at s
    have t : ns_P (fun v => ns_exc b tl hd (ns_yy c cap rc) m v) n = ns_sm (fun v => ns_ps (adj v) - (if 0 < adj v then rc (2 * (m + ns_cnt adj v) + 1) else 0)) n := by
      refine ns_sm_c n (fun v hv => ?_)
      show ns_ps (ns_exc b tl hd (ns_yy c cap rc) m v) = ns_ps (adj v) - (if 0 < adj v then rc (2 * (m + ns_cnt adj v) + 1) else 0)
      obtain ⟨g1, g2, g3⟩ := f2 v hv
      by_cases k : 0 < adj v
      · have p := (i3 v hv).1 k
        rw [(g1 k).1, if_pos k]
        have := (g1 k).2
        unfold ns_ps
        rw [if_pos k]
        split <;> omega
      · rw [if_neg k]
        by_cases k' : adj v < 0
        · rw [(g2 k').1]
          have := (g2 k').2
          unfold ns_ps
          rw [if_neg k, if_neg (by omega)]; omega
        · rw [g3 (by omega)]
          unfold ns_ps
          rw [if_neg k, if_neg (by omega)]; omega
    rw [t, ns_sm_sub]
    have u : ns_P adj n = ns_sm (fun v => ns_ps (adj v)) n := rfl
    omega
  · have := ns_y_cost (cap := cap) (rc := rc) hY
    omega
/-- one push of the reference -/
theorem ns_YI_push {n m : Nat} {tl hd : Nat → Nat} {c cap adj : Nat → Int} {fr tt : Nat → Nat} {ln rc π : Nat → Int} {F Q U hi a : Int} {src : Nat → Bool} {d : Nat → Int} {p : Nat → Option Nat} {es : List Nat}
    (hG : ns_G (n + 2) (m + ns_cnt adj n) fr tt ln) (hI : ns_YI n m cap adj fr tt ln rc F Q)
    (hB : ns_B (n + 2) (m + ns_cnt adj n) fr tt ln rc U src hi d p) (hU : hi + 50 < U) (hC : ns_C (m + ns_cnt adj n) fr tt ln rc U (2 * (m + ns_cnt adj n)) d) (hP : ns_Pot (m + ns_cnt adj n) fr tt ln rc π)
    (hp : ns_path fr p n (n + 1) es) (ha : 0 ≤ a) (hle : ∀ e, e ∈ es → a ≤ rc e) (hd0 : d n = 0) :
    ns_YI n m cap adj fr tt ln (ns_pu a es rc) (F + a) (Q + a * d (n + 1)) := by
  obtain ⟨i1, i2, i3, i4, i5, i6, i7⟩ := hI
  have he := ns_path_e hG hB hC es (n + 1) (by omega) hp
  obtain ⟨a1, a2, a3⟩ := ns_aug hG hB hU hC hP (by omega : n + 1 < n + 2) hp ha hle i1
  refine ⟨a1, fun k hk => ?_, fun v hv => ⟨fun k => ?_, fun k => ?_⟩, fun v hv => ?_, ?_, ?_, a2⟩
  · rw [ns_pu_s]; exact i2 k hk
  · rw [ns_pu_s]; exact (i3 v hv).1 k
  · rw [ns_pu_s]; exact (i3 v hv).2 k
  · rw [a3 (ns_wv fr tt v) (fun u => ns_ind u v) (ns_wv_fl hG v) (fun e _ => rfl), i4 v hv, ns_ind_0 (by omega), ns_ind_0 (by omega)]
    omega
  · rw [a3 (ns_wv fr tt n) (fun u => ns_ind u n) (ns_wv_fl hG n) (fun e _ => rfl), i5, ns_ind_0 (by omega), ns_ind_1]
    omega
  · rw [a3 ln d (fun e he' => (hG e he').2.2.2.2.2.1) (fun e hes => by have := (he e hes).2.2.1; omega), i6, hd0, Int.sub_zero]
/-- the end of the reference's pushes: t is not reached -/
theorem ns_Y_cl {n m : Nat} {tl hd : Nat → Nat} {b c cap adj : Nat → Int} {fr tt : Nat → Nat} {ln rc : Nat → Int} {F Q U hi : Int} {src : Nat → Bool} {d : Nat → Int} {p : Nat → Option Nat} (hr : ∀ a, a < m → hd a < n ∧ tl a < n)
    (hG : ns_G (n + 2) (m + ns_cnt adj n) fr tt ln) (hY : ns_YE n m tl hd c adj fr tt ln) (hadj : ∀ v, v < n → adj v = ns_exc b tl hd (ns_y0 c cap) m v) (hI : ns_YI n m cap adj fr tt ln rc F Q)
    (Z : Nat → Bool) (hZ : ns_cA (m + ns_cnt adj n) fr tt rc (2 * (m + ns_cnt adj n)) Z) (hs : ¬ Z n = true) (ht : Z (n + 1) = true) :
    ns_Cl n m tl hd cap (fun v => ns_exc b tl hd (ns_yy c cap rc) m v) (ns_yy c cap rc) Z := by
  obtain ⟨f1, f2, f3, f4⟩ := ns_YI_flow hr hY hadj hI
  obtain ⟨i1, i2, i3, i4, i5, i6, i7⟩ := hI
  obtain ⟨y1, y2, y3⟩ := hY
  have cl : ∀ v, v < n → adj v ≠ 0 → m + ns_cnt adj v < m + ns_cnt adj n := fun v hv hz => by have := ns_cnt_lt hv hz; omega
  refine ⟨fun v hv k => ?_, fun v hv k => ?_, fun a ha k wh => ?_, fun a ha k wt => ?_⟩
  · obtain ⟨g1, g2, g3⟩ := f2 v hv
    have k : ns_exc b tl hd (ns_yy c cap rc) m v < 0 := k
    by_cases q : 0 < adj v
    · have := g1 q; omega
    · by_cases q' : adj v < 0
      · have := g2 q'
        obtain ⟨b1, b2, b3⟩ := (y2 v hv).2 q'
        have c1 := cl v hv (by omega)
        have z := hZ (2 * (m + ns_cnt adj v)) (by omega) (by omega) (by omega)
        rw [b1, b2] at z
        exact z ht
      · have := g3 (by omega); omega
  · obtain ⟨g1, g2, g3⟩ := f2 v hv
    show ns_exc b tl hd (ns_yy c cap rc) m v ≤ 0
    by_cases q : 0 < adj v
    · have := g1 q
      obtain ⟨b1, b2, b3⟩ := (y2 v hv).1 q
      have c1 := cl v hv (by omega)
      by_cases w : 0 < rc (2 * (m + ns_cnt adj v))
      · have z := hZ (2 * (m + ns_cnt adj v)) (by omega) (by omega) w
        rw [b1, b2] at z
        exact absurd (z k) hs
      · omega
    · by_cases q' : adj v < 0
      · have := g2 q'; omega
      · have := g3 (by omega); omega
  · obtain ⟨b1, b2, b3⟩ := y3 a (by omega)
    have s := i2 a ha
    unfold ns_yy at k
    by_cases q : c a < 0
    · rw [if_pos q] at k
      obtain ⟨d1, d2, d3⟩ := (y1 a ha).1 q
      have z := hZ (2 * a + 1) (by omega) (by omega) (by omega)
      rw [b1, b2, d1, d2] at z
      exact z wh
    · rw [if_neg q] at k
      obtain ⟨d1, d2, d3⟩ := (y1 a ha).2 q
      have z := hZ (2 * a) (by omega) (by omega) (by omega)
      rw [d1, d2] at z
      exact z wh
  · obtain ⟨b1, b2, b3⟩ := y3 a (by omega)
    have s := i2 a ha
    unfold ns_yy at k
    by_cases q : c a < 0
    · rw [if_pos q] at k
      obtain ⟨d1, d2, d3⟩ := (y1 a ha).1 q
      have z := hZ (2 * a) (by omega) (by omega) (by omega)
      rw [d1, d2] at z
      exact z wt
    · rw [if_neg q] at k
      obtain ⟨d1, d2, d3⟩ := (y1 a ha).2 q
      have z := hZ (2 * a + 1) (by omega) (by omega) (by omega)
      rw [b1, b2, d1, d2] at z
      exact z wt
/-- and back: a closed set of the nodes, with t, is closed in the network -/
theorem ns_Y_cA {n m : Nat} {tl hd : Nat → Nat} {b c cap adj : Nat → Int} {fr tt : Nat → Nat} {ln rc : Nat → Int} {F Q : Int} (hr : ∀ a, a < m → hd a < n ∧ tl a < n)
    (hY : ns_YE n m tl hd c adj fr tt ln) (hadj : ∀ v, v < n → adj v = ns_exc b tl hd (ns_y0 c cap) m v) (hI : ns_YI n m cap adj fr tt ln rc F Q)
    (Z : Nat → Bool) (hZ : ns_Cl n m tl hd cap (fun v => ns_exc b tl hd (ns_yy c cap rc) m v) (ns_yy c cap rc) Z) :
    ns_cA (m + ns_cnt adj n) fr tt rc (2 * (m + ns_cnt adj n)) (fun v => if v < n then Z v else decide (v = n + 1)) := by
  obtain ⟨f1, f2, f3, f4⟩ := ns_YI_flow hr hY hadj hI
  obtain ⟨i1, i2, i3, i4, i5, i6, i7⟩ := hI
  obtain ⟨y1, y2, y3⟩ := hY
  obtain ⟨z1, z2, z3, z4⟩ := hZ
  intro e he _ hrc
  dsimp only
  rcases ns_ev e with ⟨k, e1, _⟩ | ⟨k, e1, _⟩
  · rw [e1] at hrc ⊢
    rcases ns_cnt_in (adj := adj) (m := m) n k (by omega) with q | ⟨u, hu, hz, q⟩
    · have h1 := hr k q
      have s := i2 k q
      by_cases w : c k < 0
      · obtain ⟨d1, d2, d3⟩ := (y1 k q).1 w
        rw [d1, d2, if_pos h1.1, if_pos h1.2]
        exact z4 k q (by unfold ns_yy; rw [if_pos w]; omega)
      · obtain ⟨d1, d2, d3⟩ := (y1 k q).2 w
        rw [d1, d2, if_pos h1.1, if_pos h1.2]
        exact z3 k q (by unfold ns_yy; rw [if_neg w]; omega)
    · obtain ⟨g1, g2, g3⟩ := f2 u hu
      rw [q] at hrc ⊢
      by_cases w : 0 < adj u
      · obtain ⟨d1, d2, d3⟩ := (y2 u hu).1 w
        have := g1 w
        rw [d1, d2, if_pos hu]
        intro zu
        have : ns_exc b tl hd (ns_yy c cap rc) m u ≤ 0 := z2 u hu zu
        omega
      · obtain ⟨d1, d2, d3⟩ := (y2 u hu).2 (by omega)
        have := g2 (by omega)
        rw [d1, d2, if_pos hu]
        intro _
        exact z1 u hu (by show ns_exc b tl hd (ns_yy c cap rc) m u < 0; omega)
  · rw [e1] at hrc ⊢
    obtain ⟨b1, b2, b3⟩ := y3 k (by omega)
    rw [b1, b2]
    rcases ns_cnt_in (adj := adj) (m := m) n k (by omega) with q | ⟨u, hu, hz, q⟩
    · have h1 := hr k q
      have s := i2 k q
      by_cases w : c k < 0
      · obtain ⟨d1, d2, d3⟩ := (y1 k q).1 w
        rw [d1, d2, if_pos h1.1, if_pos h1.2]
        exact z3 k q (by unfold ns_yy; rw [if_pos w]; omega)
      · obtain ⟨d1, d2, d3⟩ := (y1 k q).2 w
        rw [d1, d2, if_pos h1.1, if_pos h1.2]
        exact z4 k q (by unfold ns_yy; rw [if_neg w]; omega)
    · rw [q]
      by_cases w : 0 < adj u
      · obtain ⟨d1, d2, d3⟩ := (y2 u hu).1 w
        rw [d1, d2, if_neg (by omega)]
        intro zn
        exact absurd (of_decide_eq_true zn) (by omega)
      · obtain ⟨d1, d2, d3⟩ := (y2 u hu).2 (by omega)
        rw [d1, d2, if_neg (show ¬ n + 1 < n by omega)]
        intro _
        exact decide_eq_true rfl
