/-! 08: the reference's edge arrays, a pair at a time -/
def ns_pr (F T C K : Nat → Int32) (j s t : Nat) (k l : Int) : Prop :=
  F (2 * j) = nI s ∧ T (2 * j) = nI t ∧ (C (2 * j)).toInt = k ∧ (K (2 * j)).toInt = l ∧
  F (2 * j + 1) = nI t ∧ T (2 * j + 1) = nI s ∧ (C (2 * j + 1)).toInt = 0 ∧ (K (2 * j + 1)).toInt = - l
theorem ns_pr_k {F T C K F' T' C' K' : Nat → Int32} {j i s t : Nat} {k l : Int} (h : ns_pr F T C K j s t k l) (hj : j < i)
    (hF : ∀ e, e < 2 * i → F' e = F e) (hT : ∀ e, e < 2 * i → T' e = T e) (hC : ∀ e, e < 2 * i → C' e = C e) (hK : ∀ e, e < 2 * i → K' e = K e) : ns_pr F' T' C' K' j s t k l := by
  unfold ns_pr at h ⊢
  rw [hF _ (by omega), hF _ (by omega), hT _ (by omega), hT _ (by omega), hC _ (by omega), hC _ (by omega), hK _ (by omega), hK _ (by omega)]
  exact h
/-- two writes at a pair -/
def ns_u2 (f : Nat → Int32) (j : Nat) (x y : Int32) : Nat → Int32 := upd (upd f (2 * j) x) (2 * j + 1) y
theorem ns_u2_0 (f : Nat → Int32) (j : Nat) (x y : Int32) : ns_u2 f j x y (2 * j) = x := by
  unfold ns_u2; rw [nu_n (by omega), nu_s]
theorem ns_u2_1 (f : Nat → Int32) (j : Nat) (x y : Int32) : ns_u2 f j x y (2 * j + 1) = y := by
  unfold ns_u2; rw [nu_s]
theorem ns_u2_k (f : Nat → Int32) (j : Nat) (x y : Int32) : ∀ e, e < 2 * j → ns_u2 f j x y e = f e := by
  intro e he
  unfold ns_u2; rw [nu_n (by omega), nu_n (by omega)]
theorem ns_pr_n (F T C K : Nat → Int32) (j s t : Nat) (x y : Int32) (hy : -50 ≤ y.toInt ∧ y.toInt ≤ 50) :
    ns_pr (ns_u2 F j (nI s) (nI t)) (ns_u2 T j (nI t) (nI s)) (ns_u2 C j x 0) (ns_u2 K j y (-y)) j s t x.toInt y.toInt := by
  unfold ns_pr
  simp only [ns_u2_0, ns_u2_1]
  exact ⟨trivial, trivial, trivial, trivial, trivial, trivial, ni_0, ni_neg (by omega) (by omega)⟩
/-- the arcs' pairs below i, the nodes' pairs below v -/
def ns_ya (tl hd : Nat → Nat) (c cap : Nat → Int) (F T C K : Nat → Int32) (i : Nat) : Prop := ∀ a, a < i →
  (c a < 0 → ns_pr F T C K a (hd a) (tl a) (cap a) (- c a)) ∧ (¬ c a < 0 → ns_pr F T C K a (tl a) (hd a) (cap a) (c a))
def ns_yn (n m : Nat) (adj : Nat → Int) (F T C K : Nat → Int32) (i : Nat) : Prop := ∀ v, v < i →
  (0 < adj v → ns_pr F T C K (m + ns_cnt adj v) n v (adj v) 0) ∧ (adj v < 0 → ns_pr F T C K (m + ns_cnt adj v) v (n + 1) (- adj v) 0)
theorem ns_ya_k {tl hd : Nat → Nat} {c cap : Nat → Int} {F T C K F' T' C' K' : Nat → Int32} {i j : Nat} (h : ns_ya tl hd c cap F T C K i) (hj : i ≤ j)
    (hF : ∀ e, e < 2 * j → F' e = F e) (hT : ∀ e, e < 2 * j → T' e = T e) (hC : ∀ e, e < 2 * j → C' e = C e) (hK : ∀ e, e < 2 * j → K' e = K e) : ns_ya tl hd c cap F' T' C' K' i := by
  intro a ha
  exact ⟨fun k => ns_pr_k ((h a ha).1 k) (by omega) hF hT hC hK, fun k => ns_pr_k ((h a ha).2 k) (by omega) hF hT hC hK⟩
theorem ns_yn_k {n m : Nat} {adj : Nat → Int} {F T C K F' T' C' K' : Nat → Int32} {i : Nat} (h : ns_yn n m adj F T C K i)
    (hF : ∀ e, e < 2 * (m + ns_cnt adj i) → F' e = F e) (hT : ∀ e, e < 2 * (m + ns_cnt adj i) → T' e = T e) (hC : ∀ e, e < 2 * (m + ns_cnt adj i) → C' e = C e) (hK : ∀ e, e < 2 * (m + ns_cnt adj i) → K' e = K e) :
    ns_yn n m adj F' T' C' K' i := by
  intro v hv
  refine ⟨fun k => ns_pr_k ((h v hv).1 k) ?_ hF hT hC hK, fun k => ns_pr_k ((h v hv).2 k) ?_ hF hT hC hK⟩
  · have := ns_cnt_lt hv (show adj v ≠ 0 by omega); omega
  · have := ns_cnt_lt hv (show adj v ≠ 0 by omega); omega
theorem ns_ya_s {tl hd : Nat → Nat} {c cap : Nat → Int} {F T C K : Nat → Int32} {i s t : Nat} {x y : Int32} (h : ns_ya tl hd c cap F T C K i) (hy : -50 ≤ y.toInt ∧ y.toInt ≤ 50) (hx : x.toInt = cap i)
    (h1 : c i < 0 → s = hd i ∧ t = tl i ∧ y.toInt = - c i) (h2 : ¬ c i < 0 → s = tl i ∧ t = hd i ∧ y.toInt = c i) :
    ns_ya tl hd c cap (ns_u2 F i (nI s) (nI t)) (ns_u2 T i (nI t) (nI s)) (ns_u2 C i x 0) (ns_u2 K i y (-y)) (i + 1) := by
  intro a ha
  by_cases k : a = i
  · have p := ns_pr_n F T C K i s t x y hy
    rw [hx] at p
    rw [k]
    refine ⟨fun q => ?_, fun q => ?_⟩
    · obtain ⟨b1, b2, b3⟩ := h1 q
      rw [b3] at p
      rw [b1, b2] at p ⊢
      exact p
    · obtain ⟨b1, b2, b3⟩ := h2 q
      rw [b3] at p
      rw [b1, b2] at p ⊢
      exact p
  · exact ns_ya_k h (Nat.le_refl _) (ns_u2_k _ _ _ _) (ns_u2_k _ _ _ _) (ns_u2_k _ _ _ _) (ns_u2_k _ _ _ _) a (by omega)
theorem ns_yn_s {n m : Nat} {adj : Nat → Int} {F T C K : Nat → Int32} {i s t : Nat} {x : Int32} (h : ns_yn n m adj F T C K i) (hz : adj i ≠ 0)
    (h1 : 0 < adj i → s = n ∧ t = i ∧ x.toInt = adj i) (h2 : adj i < 0 → s = i ∧ t = n + 1 ∧ x.toInt = - adj i) :
    ns_yn n m adj (ns_u2 F (m + ns_cnt adj i) (nI s) (nI t)) (ns_u2 T (m + ns_cnt adj i) (nI t) (nI s)) (ns_u2 C (m + ns_cnt adj i) x 0) (ns_u2 K (m + ns_cnt adj i) 0 (-0)) (i + 1) := by
  intro a ha
  by_cases k : a = i
  · have p := ns_pr_n F T C K (m + ns_cnt adj i) s t x 0 (by rw [ni_0]; omega)
    rw [ni_0] at p
    rw [k]
    refine ⟨fun q => ?_, fun q => ?_⟩
    · obtain ⟨b1, b2, b3⟩ := h1 q
      rw [b3] at p
      rw [b1, b2] at p ⊢
      exact p
    · obtain ⟨b1, b2, b3⟩ := h2 q
      rw [b3] at p
      rw [b1, b2] at p ⊢
      exact p
  · exact ns_yn_k h (ns_u2_k _ _ _ _) (ns_u2_k _ _ _ _) (ns_u2_k _ _ _ _) (ns_u2_k _ _ _ _) a (by omega)
theorem ns_yn_z {n m : Nat} {adj : Nat → Int} {F T C K : Nat → Int32} {i : Nat} (h : ns_yn n m adj F T C K i) (hz : adj i = 0) : ns_yn n m adj F T C K (i + 1) := by
  intro a ha
  by_cases k : a = i
  · rw [k]; exact ⟨fun q => by omega, fun q => by omega⟩
  · exact h a (by omega)
/-- all laid: each edge's place is a node, and the network begins -/
theorem ns_y_all {n m : Nat} {tl hd : Nat → Nat} {c cap adj : Nat → Int} {F T C K : Nat → Int32} (hn : n ≤ 24) (hr : ∀ a, a < m → hd a < n ∧ tl a < n)
    (h1 : ns_ya tl hd c cap F T C K m) (h2 : ns_yn n m adj F T C K n) (hcap : ∀ a, a < m → 0 ≤ cap a) :
    (∀ e, e < 2 * (m + ns_cnt adj n) → F e = nI (ns_n F e) ∧ T e = nI (ns_n T e)) ∧ ns_YE n m tl hd c adj (ns_n F) (ns_n T) (ns_t K) ∧
    ns_YI n m cap adj (ns_n F) (ns_n T) (ns_t K) (ns_t C) 0 0 := by
  have cv : ∀ (f : Nat → Int32) (e s : Nat), s < n + 2 → f e = nI s → ns_n f e = s := by
    intro f e s hs he
    show (f e).toNatClampNeg = s
    rw [he, ni_cl (by omega)]
  have all : ∀ j, j < m + ns_cnt adj n → ∃ s t k l, s < n + 2 ∧ t < n + 2 ∧ ns_pr F T C K j s t k l := by
    intro j hj
    rcases ns_cnt_in n j hj with q | ⟨u, hu, hz, q⟩
    · have a1 := hr j q
      by_cases w : c j < 0
      · exact ⟨_, _, _, _, by omega, by omega, (h1 j q).1 w⟩
      · exact ⟨_, _, _, _, by omega, by omega, (h1 j q).2 w⟩
    · rw [q]
      by_cases w : 0 < adj u
      · exact ⟨_, _, _, _, by omega, by omega, (h2 u hu).1 w⟩
      · exact ⟨_, _, _, _, by omega, by omega, (h2 u hu).2 (by omega)⟩
  have hY : ns_YE n m tl hd c adj (ns_n F) (ns_n T) (ns_t K) := by
    refine ⟨fun a ha => ⟨fun q => ?_, fun q => ?_⟩, fun v hv => ⟨fun q => ?_, fun q => ?_⟩, fun j hj => ?_⟩
    · have a1 := hr a ha
      obtain ⟨p1, p2, p3, p4, _⟩ := (h1 a ha).1 q
      exact ⟨cv _ _ _ (by omega) p1, cv _ _ _ (by omega) p2, p4⟩
    · have a1 := hr a ha
      obtain ⟨p1, p2, p3, p4, _⟩ := (h1 a ha).2 q
      exact ⟨cv _ _ _ (by omega) p1, cv _ _ _ (by omega) p2, p4⟩
    · obtain ⟨p1, p2, p3, p4, _⟩ := (h2 v hv).1 q
      exact ⟨cv _ _ _ (by omega) p1, cv _ _ _ (by omega) p2, p4⟩
    · obtain ⟨p1, p2, p3, p4, _⟩ := (h2 v hv).2 q
      exact ⟨cv _ _ _ (by omega) p1, cv _ _ _ (by omega) p2, p4⟩
    · obtain ⟨s, t, k, l, hs, ht, p1, p2, p3, p4, p5, p6, p7, p8⟩ := all j hj
      rw [cv _ _ _ hs p1, cv _ _ _ ht p2, cv _ _ _ ht p5, cv _ _ _ hs p6]
      refine ⟨rfl, rfl, ?_⟩
      show (K (2 * j + 1)).toInt = - (K (2 * j)).toInt
      rw [p8, p4]
  refine ⟨fun e he => ?_, hY, ns_YI_0 hY hcap (fun a ha => ?_) (fun v hv => ⟨fun q => ?_, fun q => ?_⟩) (fun j hj => ?_)⟩
  · rcases ns_ev e with ⟨j, e1, _⟩ | ⟨j, e1, _⟩
    · obtain ⟨s, t, k, l, hs, ht, p1, p2, p3, p4, p5, p6, p7, p8⟩ := all j (by omega)
      rw [e1, cv _ _ _ hs p1, cv _ _ _ ht p2]
      exact ⟨p1, p2⟩
    · obtain ⟨s, t, k, l, hs, ht, p1, p2, p3, p4, p5, p6, p7, p8⟩ := all j (by omega)
      rw [e1, cv _ _ _ ht p5, cv _ _ _ hs p6]
      exact ⟨p5, p6⟩
  · by_cases q : c a < 0
    · exact ((h1 a ha).1 q).2.2.1
    · exact ((h1 a ha).2 q).2.2.1
  · exact ((h2 v hv).1 q).2.2.1
  · exact ((h2 v hv).2 q).2.2.1
  · obtain ⟨s, t, k, l, hs, ht, p1, p2, p3, p4, p5, p6, p7, p8⟩ := all j hj
    exact p7
