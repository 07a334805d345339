/-! 03: the path by the parents, and a push along it -/
def ns_path (fr : Nat → Nat) (p : Nat → Option Nat) (r : Nat) : Nat → List Nat → Prop
  | v, [] => v = r ∧ p v = none
  | v, e :: es => p v = some e ∧ ns_path fr p r (fr e) es
theorem ns_path_ex {V H : Nat} {fr tt : Nat → Nat} {ln rc : Nat → Int} {U : Int} {src : Nat → Bool} {hi : Int} {d : Nat → Int} {p : Nat → Option Nat} {ρ : Nat → Nat}
    (hG : ns_G V H fr tt ln) (hB : ns_B V H fr tt ln rc U src hi d p) (hρ : ∀ v, v < V → ∀ e, p v = some e → ρ (fr e) < ρ v) :
    ∀ (k v : Nat) (l : List Nat), ρ v ≤ k → v < V → d v ≠ U → (∀ u, u < V → ρ u ≤ ρ v → u ∈ l) →
      ∃ es r, ns_path fr p r v es ∧ es.length < l.length ∧ r < V ∧ src r = true := by
  intro k
  induction k with
  | zero =>
    intro v l hk hv hd hl
    have hvl := hl v hv (Nat.le_refl _)
    cases hp : p v with
    | none =>
      refine ⟨[], v, ⟨rfl, hp⟩, List.length_pos_of_mem hvl, hv, ?_⟩
      rcases hB.2.2.1 v hv hp with k | k
      · exact absurd k hd
      · exact k.1
    | some e =>
      have := hρ v hv e hp
      omega
  | succ k ih =>
    intro v l hk hv hd hl
    have hvl := hl v hv (Nat.le_refl _)
    cases hp : p v with
    | none =>
      refine ⟨[], v, ⟨rfl, hp⟩, List.length_pos_of_mem hvl, hv, ?_⟩
      rcases hB.2.2.1 v hv hp with k | k
      · exact absurd k hd
      · exact k.1
    | some e =>
      have h1 := hρ v hv e hp
      obtain ⟨a1, a2, a3, a4, a5, a6⟩ := hB.2.1 v hv e hp
      obtain ⟨es, r, b1, b2, b3, b4⟩ := ih (fr e) (l.erase v) (by omega) (hG e a1).1 a4 (fun u hu hr => by
        have hne : u ≠ v := by intro k; rw [k] at hr; omega
        exact (List.mem_erase_of_ne hne).mpr (hl u hu (by omega)))
      refine ⟨e :: es, r, ⟨hp, b1⟩, ?_, b3, b4⟩
      rw [List.length_erase_of_mem hvl] at b2
      simp only [List.length_cons]
      omega
theorem ns_path_of {V H : Nat} {fr tt : Nat → Nat} {ln rc : Nat → Int} {U : Int} {src : Nat → Bool} {hi : Int} {d : Nat → Int} {p : Nat → Option Nat}
    (hG : ns_G V H fr tt ln) (hB : ns_B V H fr tt ln rc U src hi d p) {v : Nat} (hv : v < V) (hd : d v ≠ U) :
    ∃ es r, ns_path fr p r v es ∧ es.length < V ∧ r < V ∧ src r = true := by
  obtain ⟨ρ, hρ⟩ := hB.2.2.2.2
  obtain ⟨es, r, h1, h2, h3⟩ := ns_path_ex hG hB hρ (ρ v) v (List.range V) (Nat.le_refl _) hv hd (fun u hu _ => List.mem_range.mpr hu)
  rw [List.length_range] at h2
  exact ⟨es, r, h1, h2, h3⟩
/-- what holds of each edge of the path -/
theorem ns_path_e {V H : Nat} {fr tt : Nat → Nat} {ln rc : Nat → Int} {U : Int} {src : Nat → Bool} {hi : Int} {d : Nat → Int} {p : Nat → Option Nat} {r : Nat}
    (hG : ns_G V H fr tt ln) (hB : ns_B V H fr tt ln rc U src hi d p) (hC : ns_C H fr tt ln rc U (2 * H) d) :
    ∀ (es : List Nat) (v : Nat), v < V → ns_path fr p r v es → ∀ e, e ∈ es → e < 2 * H ∧ 0 < rc e ∧ d (tt e) = d (fr e) + ln e ∧ d (fr e) ≠ U ∧ d (tt e) ≠ U := by
  intro es
  induction es with
  | nil => intro v _ _ e he; simp at he
  | cons f es ih =>
    intro v hv hp e he
    obtain ⟨a1, a2, a3, a4, a5, a6⟩ := hB.2.1 v hv f hp.1
    rcases List.mem_cons.mp he with k | k
    · rw [k]
      have c := hC f a1 a1 a2
      rw [a3] at c ⊢
      refine ⟨a1, a2, ?_, a4, a6⟩
      rcases c with c | c
      · exact absurd c a4
      · omega
    · exact ih (fr f) (hG f a1).1 hp.2 e k
theorem ns_path_tt {V H : Nat} {fr tt : Nat → Nat} {ln rc : Nat → Int} {U : Int} {src : Nat → Bool} {hi : Int} {d : Nat → Int} {p : Nat → Option Nat} {r : Nat} {ρ : Nat → Nat}
    (hG : ns_G V H fr tt ln) (hB : ns_B V H fr tt ln rc U src hi d p) (hρ : ∀ v, v < V → ∀ e, p v = some e → ρ (fr e) < ρ v) :
    ∀ (es : List Nat) (v : Nat), v < V → ns_path fr p r v es → (∀ e, e ∈ es → ρ (tt e) ≤ ρ v) ∧ ρ r ≤ ρ v ∧ (es ≠ [] → ρ r < ρ v) := by
  intro es
  induction es with
  | nil =>
    intro v _ hp
    refine ⟨fun e he => by simp at he, ?_, fun k => absurd rfl k⟩
    rw [hp.1]; exact Nat.le_refl _
  | cons f es ih =>
    intro v hv hp
    obtain ⟨a1, a2, a3, a4, a5, a6⟩ := hB.2.1 v hv f hp.1
    have h1 := hρ v hv f hp.1
    obtain ⟨b1, b2, b3⟩ := ih (fr f) (hG f a1).1 hp.2
    refine ⟨fun e he => ?_, by omega, fun _ => by omega⟩
    rcases List.mem_cons.mp he with k | k
    · rw [k, a3]; exact Nat.le_refl _
    · have := b1 e k
      omega
def ns_ls (w : Nat → Int) : List Nat → Int
  | [] => 0
  | e :: es => w e + ns_ls w es
theorem ns_tel {V H : Nat} {fr tt : Nat → Nat} {ln rc : Nat → Int} {U : Int} {src : Nat → Bool} {hi : Int} {d : Nat → Int} {p : Nat → Option Nat} {r : Nat}
    (hG : ns_G V H fr tt ln) (hB : ns_B V H fr tt ln rc U src hi d p) (ψ w : Nat → Int) :
    ∀ (es : List Nat) (v : Nat), v < V → ns_path fr p r v es → (∀ e, e ∈ es → w e = ψ (tt e) - ψ (fr e)) → ns_ls w es = ψ v - ψ r := by
  intro es
  induction es with
  | nil =>
    intro v _ hp _
    rw [hp.1]
    show (0 : Int) = _
    omega
  | cons f es ih =>
    intro v hv hp hw
    obtain ⟨a1, a2, a3, a4, a5, a6⟩ := hB.2.1 v hv f hp.1
    have h1 := ih (fr f) (hG f a1).1 hp.2 (fun e he => hw e (List.mem_cons_of_mem _ he))
    have h2 := hw f (by simp)
    rw [a3] at h2
    show w f + ns_ls w es = _
    omega
/-- one edge's push, and the push along a path -/
def ns_p1 (a : Int) (e : Nat) (rc : Nat → Int) : Nat → Int := ns_up (ns_up rc e (rc e - a)) (ns_fl e) (rc (ns_fl e) + a)
def ns_pu (a : Int) : List Nat → (Nat → Int) → (Nat → Int)
  | [], rc => rc
  | e :: es, rc => ns_pu a es (ns_p1 a e rc)
theorem ns_p1_e (a : Int) (e : Nat) (rc : Nat → Int) : ns_p1 a e rc e = rc e - a := by
  unfold ns_p1
  rw [ns_un (fun k => ns_fl_ne e k.symm), ns_us]
theorem ns_p1_f (a : Int) (e : Nat) (rc : Nat → Int) : ns_p1 a e rc (ns_fl e) = rc (ns_fl e) + a := by
  unfold ns_p1
  rw [ns_us]
theorem ns_p1_n (a : Int) {e f : Nat} (rc : Nat → Int) (h1 : f ≠ e) (h2 : f ≠ ns_fl e) : ns_p1 a e rc f = rc f := by
  unfold ns_p1
  rw [ns_un h2, ns_un h1]
theorem ns_p1_s (a : Int) (e : Nat) (rc : Nat → Int) (j : Nat) : ns_p1 a e rc (2 * j) + ns_p1 a e rc (2 * j + 1) = rc (2 * j) + rc (2 * j + 1) := by
  by_cases h0 : e = 2 * j
  · have hf : ns_fl e = 2 * j + 1 := by unfold ns_fl; rw [if_pos (by omega)]; omega
    rw [← hf, ns_p1_f, ← h0, ns_p1_e]; omega
  · by_cases h1 : e = 2 * j + 1
    · have hf : ns_fl e = 2 * j := by unfold ns_fl; rw [if_neg (by omega)]; omega
      rw [← hf, ns_p1_f, hf, ← h1, ns_p1_e]; omega
    · have hf : ns_fl e ≠ 2 * j ∧ ns_fl e ≠ 2 * j + 1 := by unfold ns_fl; split <;> omega
      rw [ns_p1_n a rc (fun k => h0 k.symm) (fun k => hf.1 k.symm), ns_p1_n a rc (fun k => h1 k.symm) (fun k => hf.2 k.symm)]
theorem ns_pu_s (a : Int) (j : Nat) : ∀ (es : List Nat) (rc : Nat → Int), ns_pu a es rc (2 * j) + ns_pu a es rc (2 * j + 1) = rc (2 * j) + rc (2 * j + 1) := by
  intro es
  induction es with
  | nil => intro rc; rfl
  | cons e es ih =>
    intro rc
    show ns_pu a es (ns_p1 a e rc) (2 * j) + ns_pu a es (ns_p1 a e rc) (2 * j + 1) = _
    rw [ih, ns_p1_s]
/-- a linear count over the pairs -/
def ns_li (w rc : Nat → Int) (H : Nat) : Int := ns_sm (fun j => w (2 * j) * rc (2 * j + 1)) H
theorem ns_p1_li {H : Nat} (a : Int) {e : Nat} (w rc : Nat → Int) (he : e < 2 * H) (hw : w (ns_fl e) = - w e) : ns_li w (ns_p1 a e rc) H = ns_li w rc H + a * w e := by
  unfold ns_li
  have hj : e / 2 < H := by omega
  rw [ns_sm_u (f := fun j => w (2 * j) * rc (2 * j + 1)) (g := fun j => w (2 * j) * ns_p1 a e rc (2 * j + 1)) (e / 2) H hj (fun i _ hn => by
    show w (2 * i) * ns_p1 a e rc (2 * i + 1) = w (2 * i) * rc (2 * i + 1)
    rw [ns_p1_n a rc (by omega) (by unfold ns_fl; split <;> omega)])]
  by_cases h0 : e % 2 = 0
  · have hf : ns_fl e = e + 1 := by unfold ns_fl; rw [if_pos h0]
    have h2 : 2 * (e / 2) = e := by omega
    rw [h2, ← hf, ns_p1_f, Int.mul_add, Int.mul_comm (w e) a]; omega
  · have hf : ns_fl e = e - 1 := by unfold ns_fl; rw [if_neg h0]
    have h2 : 2 * (e / 2) = ns_fl e := by omega
    have h3 : ns_fl e + 1 = e := by omega
    rw [h2, h3, ns_p1_e, hw, Int.mul_sub, Int.neg_mul, Int.neg_mul, Int.mul_comm (w e) a]; omega
theorem ns_pu_li {H : Nat} (a : Int) (w : Nat → Int) : ∀ (es : List Nat) (rc : Nat → Int), (∀ e, e ∈ es → e < 2 * H ∧ w (ns_fl e) = - w e) → ns_li w (ns_pu a es rc) H = ns_li w rc H + a * ns_ls w es := by
  intro es
  induction es with
  | nil =>
    intro rc _
    show ns_li w rc H = ns_li w rc H + a * 0
    omega
  | cons e es ih =>
    intro rc h
    show ns_li w (ns_pu a es (ns_p1 a e rc)) H = ns_li w rc H + a * (w e + ns_ls w es)
    rw [ih _ (fun f hf => h f (List.mem_cons_of_mem _ hf)), ns_p1_li a w rc (h e (by simp)).1 (h e (by simp)).2, Int.mul_add]
    omega
theorem ns_p1_pos {a : Int} (ha : 0 ≤ a) {e f : Nat} {rc : Nat → Int} (h : 0 < ns_p1 a e rc f) : 0 < rc f ∨ f = ns_fl e := by
  by_cases h2 : f = ns_fl e
  · exact Or.inr h2
  · left
    by_cases h1 : f = e
    · rw [h1, ns_p1_e] at h
      rw [h1]; omega
    · rw [ns_p1_n a rc h1 h2] at h
      exact h
theorem ns_pu_pos {a : Int} (ha : 0 ≤ a) {f : Nat} : ∀ (es : List Nat) (rc : Nat → Int), 0 < ns_pu a es rc f → 0 < rc f ∨ ∃ e, e ∈ es ∧ f = ns_fl e := by
  intro es
  induction es with
  | nil => intro rc h; exact Or.inl h
  | cons e es ih =>
    intro rc h
    rcases ih (ns_p1 a e rc) h with k | ⟨g, hg, k⟩
    · rcases ns_p1_pos ha k with k | k
      · exact Or.inl k
      · exact Or.inr ⟨e, by simp, k⟩
    · exact Or.inr ⟨g, List.mem_cons_of_mem _ hg, k⟩
theorem ns_pu_nn {V H : Nat} {fr tt : Nat → Nat} {ln rc0 : Nat → Int} {U : Int} {src : Nat → Bool} {hi : Int} {d : Nat → Int} {p : Nat → Option Nat} {r : Nat} {ρ : Nat → Nat} {a : Int} (ha : 0 ≤ a)
    (hG : ns_G V H fr tt ln) (hB : ns_B V H fr tt ln rc0 U src hi d p) (hρ : ∀ v, v < V → ∀ e, p v = some e → ρ (fr e) < ρ v) :
    ∀ (es : List Nat) (v : Nat) (rc : Nat → Int), v < V → ns_path fr p r v es → (∀ e, e ∈ es → a ≤ rc e) → (∀ e, e < 2 * H → 0 ≤ rc e) → ∀ e, e < 2 * H → 0 ≤ ns_pu a es rc e := by
  intro es
  induction es with
  | nil => intro v rc _ _ _ h; exact h
  | cons f es ih =>
    intro v rc hv hp hle h
    obtain ⟨a1, a2, a3, a4, a5, a6⟩ := hB.2.1 v hv f hp.1
    have h1 := hρ v hv f hp.1
    have h2 := (ns_path_tt hG hB hρ es (fr f) (hG f a1).1 hp.2).1
    refine ih (fr f) (ns_p1 a f rc) (hG f a1).1 hp.2 (fun e he => ?_) (fun e he => ?_)
    · have hne : e ≠ f := by
        intro k
        have := h2 e he
        rw [k, a3] at this
        omega
      have := hle e (List.mem_cons_of_mem _ he)
      by_cases k : e = ns_fl f
      · rw [k] at this
        rw [k, ns_p1_f]
        have := h (ns_fl f) (ns_fl_lt a1)
        omega
      · rw [ns_p1_n a rc hne k]; exact this
    · by_cases k : e = f
      · rw [k, ns_p1_e]
        have := hle f (by simp)
        omega
      · by_cases k' : e = ns_fl f
        · rw [k', ns_p1_f]
          have := h (ns_fl f) (ns_fl_lt a1)
          omega
        · rw [ns_p1_n a rc k k']; exact h e he
theorem ns_sup (f : Nat → Int) : ∀ n : Nat, ∃ K : Int, ∀ i, i < n → f i ≤ K := by
  intro n
  induction n with
  | zero => exact ⟨0, fun i hi => by omega⟩
  | succ n ih =>
    obtain ⟨K, hK⟩ := ih
    by_cases h : f n ≤ K
    · refine ⟨K, fun i hi => ?_⟩
      by_cases k : i = n
      · rw [k]; exact h
      · exact hK i (by omega)
    · refine ⟨f n, fun i hi => ?_⟩
      by_cases k : i = n
      · rw [k]; exact Int.le_refl _
      · have := hK i (by omega); omega
/-- potentials after a push -/
theorem ns_Pot_new {V H : Nat} {fr tt : Nat → Nat} {ln rc rc' π : Nat → Int} {U : Int} {src : Nat → Bool} {hi : Int} {d : Nat → Int} {p : Nat → Option Nat} {es : List Nat}
    (hG : ns_G V H fr tt ln) (hB : ns_B V H fr tt ln rc U src hi d p) (hU : hi + 50 < U) (hC : ns_C H fr tt ln rc U (2 * H) d) (hP : ns_Pot H fr tt ln rc π)
    (he : ∀ e, e ∈ es → e < 2 * H ∧ 0 < rc e ∧ d (tt e) = d (fr e) + ln e ∧ d (fr e) ≠ U ∧ d (tt e) ≠ U)
    (hn : ∀ f, f < 2 * H → 0 < rc' f → 0 < rc f ∨ ∃ e, e ∈ es ∧ f = ns_fl e) : ∃ π', ns_Pot H fr tt ln rc' π' := by
  obtain ⟨K, hK⟩ := ns_sup (fun e => d (tt e) - ln e - π (fr e)) (2 * H)
  refine ⟨fun v => if d v = U then π v + K else d v, fun f hf hr => ?_⟩
  dsimp only
  obtain ⟨g1, g2, g3, g4, g5, g6, g7, g8⟩ := hG f hf
  rcases hn f hf hr with k | ⟨e, hes, k⟩
  · have hk : d (tt f) - ln f - π (fr f) ≤ K := hK f hf
    by_cases hu : d (fr f) = U
    · rw [if_pos hu]
      by_cases hv : d (tt f) = U
      · rw [if_pos hv]
        have := hP f hf k
        omega
      · rw [if_neg hv]
        omega
    · rw [if_neg hu]
      have c := hC f hf hf k
      have b := hB.1 (fr f) g1
      have hv : d (tt f) ≠ U := by omega
      rw [if_neg hv]
      omega
  · obtain ⟨b1, b2, b3, b4, b5⟩ := he e hes
    obtain ⟨q1, q2, q3, q4, q5, q6, q7, q8⟩ := hG e b1
    rw [k, q4, q5, q6, if_neg b4, if_neg b5]
    omega
/-- the push along a path, all in one -/
theorem ns_aug {V H : Nat} {fr tt : Nat → Nat} {ln rc π : Nat → Int} {U : Int} {src : Nat → Bool} {hi : Int} {d : Nat → Int} {p : Nat → Option Nat} {es : List Nat} {v r : Nat} {a : Int}
    (hG : ns_G V H fr tt ln) (hB : ns_B V H fr tt ln rc U src hi d p) (hU : hi + 50 < U) (hC : ns_C H fr tt ln rc U (2 * H) d) (hP : ns_Pot H fr tt ln rc π)
    (hv : v < V) (hp : ns_path fr p r v es) (ha : 0 ≤ a) (hle : ∀ e, e ∈ es → a ≤ rc e) (hnn : ∀ e, e < 2 * H → 0 ≤ rc e) :
    (∀ e, e < 2 * H → 0 ≤ ns_pu a es rc e) ∧ (∃ π', ns_Pot H fr tt ln (ns_pu a es rc) π') ∧
    (∀ w ψ : Nat → Int, (∀ e, e < 2 * H → w (ns_fl e) = - w e) → (∀ e, e ∈ es → w e = ψ (tt e) - ψ (fr e)) → ns_li w (ns_pu a es rc) H = ns_li w rc H + a * (ψ v - ψ r)) := by
  have he := ns_path_e hG hB hC es v hv hp
  obtain ⟨ρ, hρ⟩ := hB.2.2.2.2
  refine ⟨ns_pu_nn ha hG hB hρ es v rc hv hp hle hnn, ns_Pot_new hG hB hU hC hP he (fun f _ hf => ns_pu_pos ha es rc hf), fun w ψ hw hψ => ?_⟩
  rw [ns_pu_li a w es rc (fun e hes => ⟨(he e hes).1, hw e (he e hes).1⟩), ns_tel hG hB ψ w es v hv hp hψ]
