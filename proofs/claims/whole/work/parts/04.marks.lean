/-! 04: marking what reaches a set; the class's graph and the reference's graph -/
def ns_cA (H : Nat) (fr tt : Nat → Nat) (rc : Nat → Int) (i : Nat) (mk : Nat → Bool) : Prop := ∀ e, e < 2 * H → e < i → 0 < rc e → mk (tt e) = true → mk (fr e) = true
def ns_mk (V H : Nat) (fr tt : Nat → Nat) (rc : Nat → Int) (ini : Nat → Bool) (r i : Nat) (g : Bool) (mk : Nat → Bool) : Prop :=
  (∀ v, v < V → ini v = true → mk v = true) ∧
  (∀ Z : Nat → Bool, (∀ v, v < V → ini v = true → Z v = true) → ns_cA H fr tt rc (2 * H) Z → ∀ v, v < V → mk v = true → Z v = true) ∧
  (ns_cA H fr tt rc (2 * H) mk ∨ ((∃ l : List Nat, (∀ v, v < V → ¬ mk v = true → v ∈ l) ∧ l.length + r + 1 + (if g = true then 1 else 0) ≤ V) ∧ (g = false → ns_cA H fr tt rc i mk)))
theorem ns_mk_0 {V H : Nat} {fr tt : Nat → Nat} {rc : Nat → Int} {ini mk : Nat → Bool} (hG : ∀ e, e < 2 * H → tt e < V) (h : ∀ v, v < V → mk v = ini v) : ns_mk V H fr tt rc ini 0 0 false mk := by
  refine ⟨fun v hv k => by rw [h v hv]; exact k, fun Z hZ _ v hv k => hZ v hv (by rw [← h v hv]; exact k), ?_⟩
  by_cases ex : ∃ v, v < V ∧ mk v = true
  · obtain ⟨v, hv, hm⟩ := ex
    right
    refine ⟨⟨(List.range V).erase v, fun u hu hn => ?_, ?_⟩, fun _ e _ h0 => absurd h0 (Nat.not_lt_zero _)⟩
    · have hne : u ≠ v := by intro k; rw [k] at hn; exact hn hm
      exact (List.mem_erase_of_ne hne).mpr (List.mem_range.mpr hu)
    · rw [List.length_erase_of_mem (List.mem_range.mpr hv), List.length_range, if_neg (by decide)]
      omega
  · left
    intro e he _ _ k
    exact absurd ⟨tt e, hG e he, k⟩ ex
theorem ns_mk_upd {V H : Nat} {fr tt : Nat → Nat} {rc : Nat → Int} {ini mk : Nat → Bool} {r e : Nat} {g : Bool} (hf : fr e < V) (ht : tt e < V) (h : ns_mk V H fr tt rc ini r e g mk) (he : e < 2 * H)
    (hr : 0 < rc e) (h1 : mk (tt e) = true) (h2 : ¬ mk (fr e) = true) : ns_mk V H fr tt rc ini r (e + 1) true (ns_up mk (fr e) true) := by
  obtain ⟨a, b, c⟩ := h
  have mono : ∀ v, mk v = true → ns_up mk (fr e) true v = true := by
    intro v hv
    by_cases k : v = fr e
    · rw [k, ns_us]
    · rw [ns_un k]; exact hv
  refine ⟨fun v hv k => mono v (a v hv k), fun Z hZ hc v hv k => ?_, ?_⟩
  · by_cases k' : v = fr e
    · rw [k']
      exact hc e he he hr (b Z hZ hc (tt e) ht h1)
    · rw [ns_un k'] at k
      exact b Z hZ hc v hv k
  · rcases c with c | ⟨⟨l, l1, l2⟩, c⟩
    · exact absurd (c e he he hr h1) h2
    · right
      refine ⟨⟨l.erase (fr e), fun v hv hn => ?_, ?_⟩, fun k => by cases k⟩
      · have hne : v ≠ fr e := by intro k; rw [k, ns_us] at hn; exact hn rfl
        rw [ns_un hne] at hn
        exact (List.mem_erase_of_ne hne).mpr (l1 v hv hn)
      · have hm := l1 (fr e) hf h2
        have : 0 < l.length := List.length_pos_of_mem hm
        rw [List.length_erase_of_mem hm, if_pos rfl]
        split at l2 <;> omega
theorem ns_mk_no {V H : Nat} {fr tt : Nat → Nat} {rc : Nat → Int} {ini mk : Nat → Bool} {r e : Nat} {g : Bool} (h : ns_mk V H fr tt rc ini r e g mk)
    (hn : 0 < rc e → mk (tt e) = true → mk (fr e) = true) : ns_mk V H fr tt rc ini r (e + 1) g mk := by
  obtain ⟨a, b, c⟩ := h
  refine ⟨a, b, ?_⟩
  rcases c with c | ⟨c1, c⟩
  · exact Or.inl c
  · refine Or.inr ⟨c1, fun k e' he' hi hr hm => ?_⟩
    by_cases k' : e' = e
    · rw [k'] at hr hm ⊢; exact hn hr hm
    · exact c k e' he' (by omega) hr hm
theorem ns_mk_end {V H : Nat} {fr tt : Nat → Nat} {rc : Nat → Int} {ini mk : Nat → Bool} {r : Nat} {g : Bool} (h : ns_mk V H fr tt rc ini r (2 * H) g mk) :
    ns_mk V H fr tt rc ini (r + 1) 0 false mk ∧ (g = false → ns_cA H fr tt rc (2 * H) mk) := by
  obtain ⟨a, b, c⟩ := h
  refine ⟨⟨a, b, ?_⟩, fun k => ?_⟩
  · rcases c with c | ⟨⟨l, l1, l2⟩, c⟩
    · exact Or.inl c
    · cases g with
      | false => exact Or.inl (c rfl)
      | true =>
        rw [if_pos rfl] at l2
        refine Or.inr ⟨⟨l, l1, ?_⟩, fun _ e _ h0 => absurd h0 (Nat.not_lt_zero _)⟩
        rw [if_neg (by decide)]
        omega
  · rcases c with c | ⟨_, c⟩
    · exact c
    · exact c k
theorem ns_mk_all {V H : Nat} {fr tt : Nat → Nat} {rc : Nat → Int} {ini mk : Nat → Bool} {r i : Nat} {g : Bool} (h : ns_mk V H fr tt rc ini r i g mk) (hr : V ≤ r) : ns_cA H fr tt rc (2 * H) mk := by
  rcases h.2.2 with c | ⟨⟨l, _, l2⟩, _⟩
  · exact c
  · split at l2 <;> omega
theorem ns_mk_w {V H : Nat} {fr tt : Nat → Nat} {rc : Nat → Int} {ini mk : Nat → Bool} {r i : Nat} {g : Bool} (h : ns_mk V H fr tt rc ini r i g mk) (hc : ns_cA H fr tt rc (2 * H) mk) (r' i' : Nat) (g' : Bool) : ns_mk V H fr tt rc ini r' i' g' mk :=
  ⟨h.1, h.2.1, Or.inl hc⟩
/-- unreached by an edge with room: unreached -/
theorem ns_CU {V H : Nat} {fr tt : Nat → Nat} {ln rc : Nat → Int} {U : Int} {src : Nat → Bool} {hi : Int} {d : Nat → Int} {p : Nat → Option Nat} {e : Nat}
    (hG : ns_G V H fr tt ln) (hB : ns_B V H fr tt ln rc U src hi d p) (hU : hi + 50 < U) (hC : ns_C H fr tt ln rc U (2 * H) d) (he : e < 2 * H) (hr : 0 < rc e) (ht : d (tt e) = U) : d (fr e) = U := by
  rcases hC e he he hr with k | k
  · exact k
  · obtain ⟨g1, g2, g3, g4, g5, g6, g7, g8⟩ := hG e he
    have := hB.1 (fr e) g1
    omega
/-! the class's graph -/
def ns_xf (tl hd : Nat → Nat) (e : Nat) : Nat := if e % 2 = 0 then tl (e / 2) else hd (e / 2)
def ns_xl (c : Nat → Int) (e : Nat) : Int := if e % 2 = 0 then c (e / 2) else - c (e / 2)
def ns_xr (cap x : Nat → Int) (e : Nat) : Int := if e % 2 = 0 then cap (e / 2) - x (e / 2) else x (e / 2)
theorem ns_xf_0 (tl hd : Nat → Nat) (k : Nat) : ns_xf tl hd (2 * k) = tl k := by
  unfold ns_xf; rw [if_pos (by omega), show 2 * k / 2 = k by omega]
theorem ns_xf_1 (tl hd : Nat → Nat) (k : Nat) : ns_xf tl hd (2 * k + 1) = hd k := by
  unfold ns_xf; rw [if_neg (by omega), show (2 * k + 1) / 2 = k by omega]
theorem ns_xl_0 (c : Nat → Int) (k : Nat) : ns_xl c (2 * k) = c k := by
  unfold ns_xl; rw [if_pos (by omega), show 2 * k / 2 = k by omega]
theorem ns_xl_1 (c : Nat → Int) (k : Nat) : ns_xl c (2 * k + 1) = - c k := by
  unfold ns_xl; rw [if_neg (by omega), show (2 * k + 1) / 2 = k by omega]
theorem ns_xr_0 (cap x : Nat → Int) (k : Nat) : ns_xr cap x (2 * k) = cap k - x k := by
  unfold ns_xr; rw [if_pos (by omega), show 2 * k / 2 = k by omega]
theorem ns_xr_1 (cap x : Nat → Int) (k : Nat) : ns_xr cap x (2 * k + 1) = x k := by
  unfold ns_xr; rw [if_neg (by omega), show (2 * k + 1) / 2 = k by omega]
theorem ns_ev (e : Nat) : (∃ k, e = 2 * k ∧ ns_fl e = 2 * k + 1) ∨ (∃ k, e = 2 * k + 1 ∧ ns_fl e = 2 * k) := by
  by_cases h : e % 2 = 0
  · left; refine ⟨e / 2, by omega, ?_⟩; unfold ns_fl; rw [if_pos h]; omega
  · right; refine ⟨e / 2, by omega, ?_⟩; unfold ns_fl; rw [if_neg h]; omega
theorem ns_fl_0 (k : Nat) : ns_fl (2 * k) = 2 * k + 1 := by unfold ns_fl; rw [if_pos (by omega)]
theorem ns_fl_1 (k : Nat) : ns_fl (2 * k + 1) = 2 * k := by unfold ns_fl; rw [if_neg (by omega)]; omega
theorem ns_x_G {n m : Nat} {tl hd : Nat → Nat} {c : Nat → Int} (h : ∀ a, a < m → hd a < n ∧ tl a < n) (hne : ∀ a, a < m → tl a ≠ hd a) (hc : ∀ a, a < m → -50 ≤ c a ∧ c a ≤ 50) :
    ns_G n m (ns_xf tl hd) (ns_xf hd tl) (ns_xl c) := by
  intro e he
  rcases ns_ev e with ⟨k, e1, e2⟩ | ⟨k, e1, e2⟩
  · have a1 := h k (by omega)
    have a2 := hne k (by omega)
    have a3 := hc k (by omega)
    rw [e2, e1]
    simp only [ns_xf_0, ns_xf_1, ns_xl_0, ns_xl_1]
    exact ⟨a1.2, a1.1, a2, trivial, trivial, trivial, a3.1, a3.2⟩
  · have a1 := h k (by omega)
    have a2 := hne k (by omega)
    have a3 := hc k (by omega)
    rw [e2, e1]
    simp only [ns_xf_0, ns_xf_1, ns_xl_0, ns_xl_1]
    exact ⟨a1.1, a1.2, fun k => a2 k.symm, trivial, trivial, by omega, by omega, by omega⟩
/-- a push of one edge is a change of the arc's flow -/
theorem ns_xr_p0 (cap x : Nat → Int) (a : Int) (k : Nat) : ns_p1 a (2 * k) (ns_xr cap x) = ns_xr cap (ns_up x k (x k + a)) := by
  funext f
  by_cases h1 : f = 2 * k
  · rw [h1, ns_p1_e, ns_xr_0, ns_xr_0, ns_us]; omega
  · by_cases h2 : f = 2 * k + 1
    · rw [h2, ← ns_fl_0, ns_p1_f, ns_fl_0, ns_xr_1, ns_xr_1, ns_us]
    · rw [ns_p1_n a _ h1 (by rw [ns_fl_0]; exact h2)]
      rcases ns_ev f with ⟨j, e1, _⟩ | ⟨j, e1, _⟩
      · rw [e1, ns_xr_0, ns_xr_0, ns_un (by omega)]
      · rw [e1, ns_xr_1, ns_xr_1, ns_un (by omega)]
theorem ns_xr_p1 (cap x : Nat → Int) (a : Int) (k : Nat) : ns_p1 a (2 * k + 1) (ns_xr cap x) = ns_xr cap (ns_up x k (x k - a)) := by
  funext f
  by_cases h1 : f = 2 * k + 1
  · rw [h1, ns_p1_e, ns_xr_1, ns_xr_1, ns_us]
  · by_cases h2 : f = 2 * k
    · have q := ns_p1_f a (2 * k + 1) (ns_xr cap x)
      rw [ns_fl_1, ns_xr_0] at q
      rw [h2, q, ns_xr_0, ns_us]; omega
    · rw [ns_p1_n a _ h1 (by rw [ns_fl_1]; exact h2)]
      rcases ns_ev f with ⟨j, e1, _⟩ | ⟨j, e1, _⟩
      · rw [e1, ns_xr_0, ns_xr_0, ns_un (by omega)]
      · rw [e1, ns_xr_1, ns_xr_1, ns_un (by omega)]
/-- the excess as a linear count -/
def ns_wv (fr tt : Nat → Nat) (v e : Nat) : Int := ns_ind (tt e) v - ns_ind (fr e) v
theorem ns_wv_fl {V H : Nat} {fr tt : Nat → Nat} {ln : Nat → Int} (hG : ns_G V H fr tt ln) (v : Nat) : ∀ e, e < 2 * H → ns_wv fr tt v (ns_fl e) = - ns_wv fr tt v e := by
  intro e he
  obtain ⟨g1, g2, g3, g4, g5, g6, g7, g8⟩ := hG e he
  unfold ns_wv
  rw [g4, g5]; omega
theorem ns_x_exc (b : Nat → Int) (tl hd : Nat → Nat) (cap x : Nat → Int) (m v : Nat) : ns_exc b tl hd x m v = b v + ns_li (ns_wv (ns_xf tl hd) (ns_xf hd tl) v) (ns_xr cap x) m := by
  unfold ns_exc ns_li
  rw [ns_sm_c (f := fun a => x a * (ns_ind (hd a) v - ns_ind (tl a) v)) (g := fun j => ns_wv (ns_xf tl hd) (ns_xf hd tl) v (2 * j) * ns_xr cap x (2 * j + 1)) m (fun a _ => by
    show _ = _
    unfold ns_wv
    rw [ns_xf_0, ns_xf_0, ns_xr_1, Int.mul_comm])]
/-! the reference's graph -/
def ns_cnt (adj : Nat → Int) : Nat → Nat
  | 0 => 0
  | v + 1 => ns_cnt adj v + (if adj v = 0 then 0 else 1)
theorem ns_cnt_s (adj : Nat → Int) (v : Nat) : ns_cnt adj (v + 1) = ns_cnt adj v + (if adj v = 0 then 0 else 1) := rfl
theorem ns_cnt_le (adj : Nat → Int) : ∀ v : Nat, ns_cnt adj v ≤ v := by
  intro v
  induction v with
  | zero => exact Nat.le_refl _
  | succ v ih => rw [ns_cnt_s]; split <;> omega
theorem ns_cnt_mono (adj : Nat → Int) (u : Nat) : ∀ v : Nat, u ≤ v → ns_cnt adj u ≤ ns_cnt adj v := by
  intro v
  induction v with
  | zero => intro h; rw [show u = 0 by omega]; exact Nat.le_refl _
  | succ v ih =>
    intro h
    by_cases k : u = v + 1
    · rw [k]; exact Nat.le_refl _
    · have := ih (by omega)
      rw [ns_cnt_s]; omega
theorem ns_cnt_lt {adj : Nat → Int} {u v : Nat} (h : u < v) (hu : adj u ≠ 0) : ns_cnt adj u < ns_cnt adj v := by
  have := ns_cnt_mono adj (u + 1) v h
  rw [ns_cnt_s, if_neg hu] at this
  omega
theorem ns_cnt_in {adj : Nat → Int} {m : Nat} : ∀ (v j : Nat), j < m + ns_cnt adj v → j < m ∨ ∃ u, u < v ∧ adj u ≠ 0 ∧ j = m + ns_cnt adj u := by
  intro v
  induction v with
  | zero => intro j h; left; exact h
  | succ v ih =>
    intro j h
    rw [ns_cnt_s] at h
    by_cases k : j < m + ns_cnt adj v
    · rcases ih j k with a | ⟨u, a, b, c⟩
      · exact Or.inl a
      · exact Or.inr ⟨u, by omega, b, c⟩
    · right
      split at h
      · omega
      · refine ⟨v, by omega, by assumption, by omega⟩
theorem ns_cnt_sum (adj g : Nat → Int) (m : Nat) : ∀ v : Nat, ns_sm g (m + ns_cnt adj v) = ns_sm g m + ns_sm (fun u => if adj u = 0 then 0 else g (m + ns_cnt adj u)) v := by
  intro v
  induction v with
  | zero => show ns_sm g m = ns_sm g m + 0; omega
  | succ v ih =>
    rw [ns_cnt_s, ns_sm_s]
    by_cases h : adj v = 0
    · rw [if_pos h, if_pos h, Nat.add_zero, ih]; omega
    · rw [if_neg h, if_neg h, ← Nat.add_assoc, ns_sm_s, ih]; omega
theorem ns_ind_c (a b : Nat) : ns_ind a b = ns_ind b a := by
  unfold ns_ind
  by_cases h : a = b
  · rw [if_pos h, if_pos h.symm]
  · rw [if_neg h, if_neg (fun k => h k.symm)]
/-- the reference's edges as they are laid -/
def ns_YE (n m : Nat) (tl hd : Nat → Nat) (c adj : Nat → Int) (fr tt : Nat → Nat) (ln : Nat → Int) : Prop :=
  (∀ a, a < m → (c a < 0 → fr (2 * a) = hd a ∧ tt (2 * a) = tl a ∧ ln (2 * a) = - c a) ∧ (¬ c a < 0 → fr (2 * a) = tl a ∧ tt (2 * a) = hd a ∧ ln (2 * a) = c a)) ∧
  (∀ v, v < n → (0 < adj v → fr (2 * (m + ns_cnt adj v)) = n ∧ tt (2 * (m + ns_cnt adj v)) = v ∧ ln (2 * (m + ns_cnt adj v)) = 0) ∧
    (adj v < 0 → fr (2 * (m + ns_cnt adj v)) = v ∧ tt (2 * (m + ns_cnt adj v)) = n + 1 ∧ ln (2 * (m + ns_cnt adj v)) = 0)) ∧
  (∀ j, j < m + ns_cnt adj n → fr (2 * j + 1) = tt (2 * j) ∧ tt (2 * j + 1) = fr (2 * j) ∧ ln (2 * j + 1) = - ln (2 * j))
theorem ns_y_G {n m : Nat} {tl hd : Nat → Nat} {c adj : Nat → Int} {fr tt : Nat → Nat} {ln : Nat → Int} (h : ∀ a, a < m → hd a < n ∧ tl a < n) (hne : ∀ a, a < m → tl a ≠ hd a) (hc : ∀ a, a < m → -50 ≤ c a ∧ c a ≤ 50)
    (hY : ns_YE n m tl hd c adj fr tt ln) : ns_G (n + 2) (m + ns_cnt adj n) fr tt ln := by
  obtain ⟨y1, y2, y3⟩ := hY
  have ev : ∀ j, j < m + ns_cnt adj n → fr (2 * j) < n + 2 ∧ tt (2 * j) < n + 2 ∧ fr (2 * j) ≠ tt (2 * j) ∧ -50 ≤ ln (2 * j) ∧ ln (2 * j) ≤ 50 := by
    intro j hj
    rcases ns_cnt_in n j hj with k | ⟨u, hu, hz, k⟩
    · have a1 := h j k
      have a2 := hne j k
      have a3 := hc j k
      by_cases hk : c j < 0
      · obtain ⟨b1, b2, b3⟩ := (y1 j k).1 hk
        rw [b1, b2, b3]
        omega
      · obtain ⟨b1, b2, b3⟩ := (y1 j k).2 hk
        rw [b1, b2, b3]
        omega
    · rw [k]
      by_cases hk : 0 < adj u
      · obtain ⟨b1, b2, b3⟩ := (y2 u hu).1 hk
        rw [b1, b2, b3]
        omega
      · obtain ⟨b1, b2, b3⟩ := (y2 u hu).2 (by omega)
        rw [b1, b2, b3]
        omega
  intro e he
  rcases ns_ev e with ⟨k, e1, e2⟩ | ⟨k, e1, e2⟩
  · obtain ⟨a1, a2, a3, a4, a5⟩ := ev k (by omega)
    obtain ⟨b1, b2, b3⟩ := y3 k (by omega)
    rw [e2, e1]
    exact ⟨a1, a2, a3, b1, b2, b3, a4, a5⟩
  · obtain ⟨a1, a2, a3, a4, a5⟩ := ev k (by omega)
    obtain ⟨b1, b2, b3⟩ := y3 k (by omega)
    rw [e2, e1, b1, b2, b3]
    exact ⟨a2, a1, fun q => a3 q.symm, rfl, rfl, by omega, by omega, by omega⟩
