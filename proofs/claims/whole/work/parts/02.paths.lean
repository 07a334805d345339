/-! 02: shortest paths over an abstract residual graph: edges in pairs 2j, 2j+1, both ways -/
def ns_fl (e : Nat) : Nat := if e % 2 = 0 then e + 1 else e - 1
theorem ns_fl_fl (e : Nat) : ns_fl (ns_fl e) = e := by unfold ns_fl; split <;> split <;> omega
theorem ns_fl_lt {e H : Nat} (h : e < 2 * H) : ns_fl e < 2 * H := by unfold ns_fl; split <;> omega
theorem ns_fl_ne (e : Nat) : ns_fl e ≠ e := by unfold ns_fl; split <;> omega
def ns_up {α : Type} (f : Nat → α) (k : Nat) (x : α) : Nat → α := fun j => if j = k then x else f j
theorem ns_us {α : Type} {f : Nat → α} {k : Nat} {x : α} : ns_up f k x k = x := if_pos rfl
theorem ns_un {α : Type} {f : Nat → α} {k j : Nat} {x : α} (h : j ≠ k) : ns_up f k x j = f j := if_neg h
def ns_G (V H : Nat) (fr tt : Nat → Nat) (ln : Nat → Int) : Prop := ∀ e, e < 2 * H →
  fr e < V ∧ tt e < V ∧ fr e ≠ tt e ∧ fr (ns_fl e) = tt e ∧ tt (ns_fl e) = fr e ∧ ln (ns_fl e) = - ln e ∧ -50 ≤ ln e ∧ ln e ≤ 50
def ns_Pot (H : Nat) (fr tt : Nat → Nat) (ln rc π : Nat → Int) : Prop := ∀ e, e < 2 * H → 0 < rc e → π (tt e) ≤ π (fr e) + ln e
/-- distances and parents at any time of a search -/
def ns_B (V H : Nat) (fr tt : Nat → Nat) (ln rc : Nat → Int) (U : Int) (src : Nat → Bool) (hi : Int) (d : Nat → Int) (p : Nat → Option Nat) : Prop :=
  (∀ v, v < V → -hi ≤ d v ∧ (d v = U ∨ d v ≤ hi)) ∧
  (∀ v, v < V → ∀ e, p v = some e → e < 2 * H ∧ 0 < rc e ∧ tt e = v ∧ d (fr e) ≠ U ∧ d (fr e) + ln e ≤ d v ∧ d v ≠ U) ∧
  (∀ v, v < V → p v = none → d v = U ∨ (src v = true ∧ d v = 0)) ∧
  (∀ v, v < V → src v = true → d v ≤ 0) ∧
  (∃ ρ : Nat → Nat, ∀ v, v < V → ∀ e, p v = some e → ρ (fr e) < ρ v)
theorem ns_B_mono {V H : Nat} {fr tt : Nat → Nat} {ln rc : Nat → Int} {U : Int} {src : Nat → Bool} {hi hi' : Int} {d : Nat → Int} {p : Nat → Option Nat}
    (h : ns_B V H fr tt ln rc U src hi d p) (hh : hi ≤ hi') : ns_B V H fr tt ln rc U src hi' d p := by
  obtain ⟨h1, h2⟩ := h
  refine ⟨fun v hv => ?_, h2⟩
  have := h1 v hv
  omega
theorem ns_B_upd {V H : Nat} {fr tt : Nat → Nat} {ln rc π : Nat → Int} {U : Int} {src : Nat → Bool} {hi : Int} {d : Nat → Int} {p : Nat → Option Nat} {e : Nat}
    (hG : ns_G V H fr tt ln) (hP : ns_Pot H fr tt ln rc π) (hB : ns_B V H fr tt ln rc U src hi d p) (hU : hi + 50 < U) (he : e < 2 * H) (hr : 0 < rc e)
    (hn : d (fr e) ≠ U) (hl : d (fr e) + ln e < d (tt e)) :
    ns_B V H fr tt ln rc U src (hi + 50) (ns_up d (tt e) (d (fr e) + ln e)) (ns_up p (tt e) (some e)) := by
  obtain ⟨h1, h2, h3, h4, ρ, h5⟩ := hB
  obtain ⟨g1, g2, g3, g4, g5, g6, g7, g8⟩ := hG e he
  have hu := h1 (fr e) g1
  have hv := h1 (tt e) g2
  have hp := hP e he hr
  refine ⟨fun w hw => ?_, fun w hw e' he' => ?_, fun w hw hp' => ?_, fun w hw hs => ?_, fun w => if d w - π w < d (tt e) - π (tt e) then ρ w else ρ w + ρ (fr e) + 1, fun w hw e' he' => ?_⟩
  · by_cases hwv : w = tt e
    · rw [hwv, ns_us]; omega
    · rw [ns_un hwv]
      have := h1 w hw
      omega
  · by_cases hwv : w = tt e
    · subst hwv
      rw [ns_us] at he'
      cases he'
      rw [ns_us, ns_un g3]
      refine ⟨he, hr, rfl, hn, Int.le_refl _, by omega⟩
    · rw [ns_un hwv] at he'
      obtain ⟨a1, a2, a3, a4, a5, a6⟩ := h2 w hw e' he'
      rw [ns_un hwv]
      by_cases hf : fr e' = tt e
      · rw [hf, ns_us]
        rw [hf] at a4 a5
        refine ⟨a1, a2, a3, by omega, by omega, a6⟩
      · rw [ns_un hf]
        exact ⟨a1, a2, a3, a4, a5, a6⟩
  · by_cases hwv : w = tt e
    · subst hwv
      rw [ns_us] at hp'
      cases hp'
    · rw [ns_un hwv] at hp' ⊢
      exact h3 w hw hp'
  · by_cases hwv : w = tt e
    · subst hwv
      rw [ns_us]
      have := h4 (tt e) hw hs
      omega
    · rw [ns_un hwv]
      exact h4 w hw hs
  · dsimp only
    have hu' : d (fr e) - π (fr e) < d (tt e) - π (tt e) := by omega
    by_cases hwv : w = tt e
    · subst hwv
      rw [ns_us] at he'
      cases he'
      rw [if_pos hu', if_neg (Int.lt_irrefl _)]
      omega
    · rw [ns_un hwv] at he'
      have b := h5 w hw e' he'
      obtain ⟨a1, a2, a3, a4, a5, a6⟩ := h2 w hw e' he'
      have c := hP e' a1 a2
      rw [a3] at c
      by_cases hk : d w - π w < d (tt e) - π (tt e)
      · rw [if_pos hk, if_pos (by omega)]; exact b
      · rw [if_neg hk]
        split <;> omega
theorem ns_B_0 {V H : Nat} {fr tt : Nat → Nat} {ln rc : Nat → Int} {U : Int} {src : Nat → Bool} {d : Nat → Int} {p : Nat → Option Nat}
    (hU : 0 < U) (h1 : ∀ v, v < V → src v = true → d v = 0) (h2 : ∀ v, v < V → ¬ src v = true → d v = U) (h3 : ∀ v, v < V → p v = none) : ns_B V H fr tt ln rc U src 0 d p := by
  refine ⟨fun v hv => ?_, fun v hv e he => ?_, fun v hv _ => ?_, fun v hv hs => ?_, fun _ => 0, fun v hv e he => ?_⟩
  · by_cases hs : src v = true
    · have := h1 v hv hs; omega
    · have := h2 v hv hs; omega
  · rw [h3 v hv] at he; cases he
  · by_cases hs : src v = true
    · exact Or.inr ⟨hs, h1 v hv hs⟩
    · exact Or.inl (h2 v hv hs)
  · have := h1 v hv hs; omega
  · rw [h3 v hv] at he; cases he
theorem ns_lmin (f : Nat → Int) : ∀ l : List Nat, l ≠ [] → ∃ w, w ∈ l ∧ ∀ w', w' ∈ l → f w ≤ f w' := by
  intro l
  induction l with
  | nil => intro h; exact absurd rfl h
  | cons a l ih =>
    intro _
    by_cases hl : l = []
    · subst hl
      refine ⟨a, by simp, fun w' hw => ?_⟩
      rw [List.mem_singleton] at hw
      rw [hw]; exact Int.le_refl _
    · obtain ⟨w, hw, hm⟩ := ih hl
      by_cases h : f a ≤ f w
      · refine ⟨a, by simp, fun w' hw' => ?_⟩
        rcases List.mem_cons.mp hw' with h' | h'
        · rw [h']; exact Int.le_refl _
        · exact Int.le_trans h (hm w' h')
      · refine ⟨w, List.mem_cons_of_mem _ hw, fun w' hw' => ?_⟩
        rcases List.mem_cons.mp hw' with h' | h'
        · rw [h']; omega
        · exact hm w' h'
/-- all edges below i hold: no distance can be bettered by them -/
def ns_C (H : Nat) (fr tt : Nat → Nat) (ln rc : Nat → Int) (U : Int) (i : Nat) (d : Nat → Int) : Prop :=
  ∀ e, e < 2 * H → e < i → 0 < rc e → d (fr e) = U ∨ d (tt e) ≤ d (fr e) + ln e
/-- at a round's head: the nodes outside l are settled -/
def ns_R (V H : Nat) (fr tt : Nat → Nat) (ln rc π : Nat → Int) (U : Int) (l : List Nat) (d : Nat → Int) : Prop :=
  (∀ u, u < V → u ∉ l → ∀ e, e < 2 * H → 0 < rc e → fr e = u → d u = U ∨ d (tt e) ≤ d u + ln e) ∧
  (∀ u, u < V → u ∉ l → ∀ w, w ∈ l → d u - π u ≤ d w - π w)
/-- within a round: w is the next to be settled -/
def ns_M (V H : Nat) (fr tt : Nat → Nat) (ln rc π : Nat → Int) (U : Int) (l : List Nat) (w : Nat) (c : Int) (i : Nat) (d : Nat → Int) : Prop :=
  (∀ u, u < V → u ∉ l → ∀ e, e < 2 * H → 0 < rc e → fr e = u → d u = U ∨ d (tt e) ≤ d u + ln e) ∧
  (∀ u, u < V → u ∉ l → d u - π u ≤ c) ∧ (∀ w', w' ∈ l → c ≤ d w' - π w') ∧ d w - π w = c ∧
  (∀ e, e < 2 * H → e < i → 0 < rc e → fr e = w → d w = U ∨ d (tt e) ≤ d w + ln e)
theorem ns_R_0 {V H : Nat} {fr tt : Nat → Nat} {ln rc π : Nat → Int} {U : Int} {d : Nat → Int} : ns_R V H fr tt ln rc π U (List.range V) d :=
  ⟨fun u hu hl => absurd (List.mem_range.mpr hu) hl, fun u hu hl => absurd (List.mem_range.mpr hu) hl⟩
theorem ns_R_M {V H : Nat} {fr tt : Nat → Nat} {ln rc π : Nat → Int} {U : Int} {l : List Nat} {d : Nat → Int} (h : ns_R V H fr tt ln rc π U l d) (hl : l ≠ []) :
    ∃ w c, w ∈ l ∧ ns_M V H fr tt ln rc π U l w c 0 d := by
  obtain ⟨w, hw, hm⟩ := ns_lmin (fun w => d w - π w) l hl
  exact ⟨w, d w - π w, hw, h.1, fun u hu hn => h.2 u hu hn w hw, hm, rfl, fun e _ h0 => absurd h0 (Nat.not_lt_zero _)⟩
theorem ns_M_R {V H : Nat} {fr tt : Nat → Nat} {ln rc π : Nat → Int} {U : Int} {l : List Nat} {d : Nat → Int} {w : Nat} {c : Int}
    (h : ns_M V H fr tt ln rc π U l w c (2 * H) d) : ns_R V H fr tt ln rc π U (l.erase w) d := by
  obtain ⟨h1, h2, h3, h4, h5⟩ := h
  refine ⟨fun u hu hn e he hr hf => ?_, fun u hu hn w' hw' => ?_⟩
  · by_cases e' : u = w
    · subst e'
      exact h5 e he he hr hf
    · exact h1 u hu (fun k => hn ((List.mem_erase_of_ne e').mpr k)) e he hr hf
  · have a := h3 w' (List.mem_of_mem_erase hw')
    by_cases e' : u = w
    · subst e'; omega
    · have := h2 u hu (fun k => hn ((List.mem_erase_of_ne e').mpr k))
      omega
theorem ns_R_C {V H : Nat} {fr tt : Nat → Nat} {ln rc π : Nat → Int} {U : Int} {l : List Nat} {d : Nat → Int} (hG : ns_G V H fr tt ln) (h : ns_R V H fr tt ln rc π U l d) (hl : l.length = 0) :
    ns_C H fr tt ln rc U (2 * H) d := by
  intro e he _ hr
  have e0 : l = [] := List.eq_nil_of_length_eq_zero hl
  subst e0
  exact h.1 (fr e) (hG e he).1 (by simp) e he hr rfl
theorem ns_M_upd {V H : Nat} {fr tt : Nat → Nat} {ln rc π : Nat → Int} {U : Int} {l : List Nat} {d : Nat → Int} {w : Nat} {c : Int} {e : Nat}
    (hG : ns_G V H fr tt ln) (hP : ns_Pot H fr tt ln rc π) (h : ns_M V H fr tt ln rc π U l w c e d) (he : e < 2 * H) (hr : 0 < rc e)
    (hn : d (fr e) ≠ U) (hl : d (fr e) + ln e < d (tt e)) :
    ns_M V H fr tt ln rc π U l w c (e + 1) (ns_up d (tt e) (d (fr e) + ln e)) := by
  obtain ⟨h1, h2, h3, h4, h5⟩ := h
  obtain ⟨g1, g2, g3, g4, g5, g6, g7, g8⟩ := hG e he
  have hp := hP e he hr
  have ul : fr e ∈ l := by
    by_cases k : fr e ∈ l
    · exact k
    · have := h1 (fr e) g1 k e he hr rfl
      omega
  have uc := h3 (fr e) ul
  have vl : tt e ∈ l := by
    by_cases k : tt e ∈ l
    · exact k
    · have := h2 (tt e) g2 k
      omega
  have vw : w ≠ tt e := by
    intro k
    rw [k] at h4
    omega
  have ne : ∀ u, u ∉ l → u ≠ tt e := fun u hu k => hu (k ▸ vl)
  refine ⟨fun u hu hn' e' he' hr' hf => ?_, fun u hu hn' => ?_, fun w' hw' => ?_, ?_, fun e' he' hi hr' hf => ?_⟩
  · rw [ns_un (ne u hn')]
    have a := h1 u hu hn' e' he' hr' hf
    by_cases k : tt e' = tt e
    · rw [k] at a ⊢
      rw [ns_us]; omega
    · rw [ns_un k]; exact a
  · rw [ns_un (ne u hn')]; exact h2 u hu hn'
  · by_cases k : w' = tt e
    · rw [k, ns_us]; omega
    · rw [ns_un k]; exact h3 w' hw'
  · rw [ns_un vw]; exact h4
  · rw [ns_un vw]
    by_cases k : e' = e
    · rw [k, ns_us]
      rw [k] at hf
      rw [← hf]
      exact Or.inr (Int.le_refl _)
    · have a := h5 e' he' (by omega) hr' hf
      by_cases k : tt e' = tt e
      · rw [k] at a ⊢
        rw [ns_us]; omega
      · rw [ns_un k]; exact a
theorem ns_M_no {V H : Nat} {fr tt : Nat → Nat} {ln rc π : Nat → Int} {U : Int} {l : List Nat} {d : Nat → Int} {w : Nat} {c : Int} {e : Nat}
    (h : ns_M V H fr tt ln rc π U l w c e d) (hn : 0 < rc e → d (fr e) = U ∨ d (tt e) ≤ d (fr e) + ln e) :
    ns_M V H fr tt ln rc π U l w c (e + 1) d := by
  obtain ⟨h1, h2, h3, h4, h5⟩ := h
  refine ⟨h1, h2, h3, h4, fun e' he' hi hr' hf => ?_⟩
  by_cases k : e' = e
  · rw [k] at hr' hf ⊢
    rw [← hf]
    exact hn hr'
  · exact h5 e' he' (by omega) hr' hf
/-- a search within a round, at edge i -/
def ns_J (V H : Nat) (fr tt : Nat → Nat) (ln rc π : Nat → Int) (U : Int) (src : Nat → Bool) (hi : Int) (l : List Nat) (w : Nat) (c : Int) (i : Nat) (ch : Bool) (d : Nat → Int) (p : Nat → Option Nat) : Prop :=
  ns_B V H fr tt ln rc U src (hi + 50 * i) d p ∧ ns_M V H fr tt ln rc π U l w c i d ∧ (ch = false → ns_C H fr tt ln rc U i d)
theorem ns_J_upd {V H : Nat} {fr tt : Nat → Nat} {ln rc π : Nat → Int} {U : Int} {src : Nat → Bool} {hi : Int} {l : List Nat} {w : Nat} {c : Int} {e : Nat} {ch : Bool} {d : Nat → Int} {p : Nat → Option Nat}
    (hG : ns_G V H fr tt ln) (hP : ns_Pot H fr tt ln rc π) (h : ns_J V H fr tt ln rc π U src hi l w c e ch d p) (hU : hi + 50 * e + 50 < U) (he : e < 2 * H) (hr : 0 < rc e)
    (hn : d (fr e) ≠ U) (hl : d (fr e) + ln e < d (tt e)) :
    ns_J V H fr tt ln rc π U src hi l w c (e + 1) true (ns_up d (tt e) (d (fr e) + ln e)) (ns_up p (tt e) (some e)) := by
  obtain ⟨h1, h2, h3⟩ := h
  refine ⟨ns_B_mono (ns_B_upd hG hP h1 hU he hr hn hl) (by omega), ns_M_upd hG hP h2 he hr hn hl, fun k => by cases k⟩
theorem ns_J_no {V H : Nat} {fr tt : Nat → Nat} {ln rc π : Nat → Int} {U : Int} {src : Nat → Bool} {hi : Int} {l : List Nat} {w : Nat} {c : Int} {e : Nat} {ch : Bool} {d : Nat → Int} {p : Nat → Option Nat}
    (h : ns_J V H fr tt ln rc π U src hi l w c e ch d p) (hn : 0 < rc e → d (fr e) = U ∨ d (tt e) ≤ d (fr e) + ln e) :
    ns_J V H fr tt ln rc π U src hi l w c (e + 1) ch d p := by
  obtain ⟨h1, h2, h3⟩ := h
  refine ⟨ns_B_mono h1 (by omega), ns_M_no h2 hn, fun k e' he' hi hr' => ?_⟩
  by_cases k' : e' = e
  · rw [k'] at hr' ⊢; exact hn hr'
  · exact h3 k e' he' (by omega) hr'
/-- a search at the head of round r -/
def ns_K (V H : Nat) (fr tt : Nat → Nat) (ln rc π : Nat → Int) (U : Int) (src : Nat → Bool) (r : Nat) (ch : Bool) (d : Nat → Int) (p : Nat → Option Nat) : Prop :=
  ns_B V H fr tt ln rc U src (12000 * r) d p ∧ (ch = true → ∃ l : List Nat, l.length + r = V ∧ ns_R V H fr tt ln rc π U l d) ∧ (ch = false → ns_C H fr tt ln rc U (2 * H) d)
theorem ns_K_J {V H : Nat} {fr tt : Nat → Nat} {ln rc π : Nat → Int} {U : Int} {src : Nat → Bool} {r : Nat} {d : Nat → Int} {p : Nat → Option Nat}
    (h : ns_K V H fr tt ln rc π U src r true d p) (hr : r < V) : ∃ l w c, l.length + r = V ∧ w ∈ l ∧ ns_J V H fr tt ln rc π U src (12000 * r) l w c 0 false d p := by
  obtain ⟨h1, h2, h3⟩ := h
  obtain ⟨l, hl, hR⟩ := h2 rfl
  obtain ⟨w, c, hw, hM⟩ := ns_R_M hR (by intro k; rw [k] at hl; simp at hl; omega)
  exact ⟨l, w, c, hl, hw, ns_B_mono h1 (by omega), hM, fun _ e _ h0 => absurd h0 (Nat.not_lt_zero _)⟩
theorem ns_J_K {V H : Nat} {fr tt : Nat → Nat} {ln rc π : Nat → Int} {U : Int} {src : Nat → Bool} {r : Nat} {d : Nat → Int} {p : Nat → Option Nat} {l : List Nat} {w : Nat} {c : Int} {ch : Bool}
    (h : ns_J V H fr tt ln rc π U src (12000 * r) l w c (2 * H) ch d p) (hH : H ≤ 120) (hl : l.length + r = V) (hw : w ∈ l) : ns_K V H fr tt ln rc π U src (r + 1) ch d p := by
  obtain ⟨h1, h2, h3⟩ := h
  refine ⟨ns_B_mono h1 (by omega), fun _ => ⟨l.erase w, ?_, ns_M_R h2⟩, h3⟩
  rw [List.length_erase_of_mem hw]
  have : 0 < l.length := List.length_pos_of_mem hw
  omega
theorem ns_K_0 {V H : Nat} {fr tt : Nat → Nat} {ln rc π : Nat → Int} {U : Int} {src : Nat → Bool} {d : Nat → Int} {p : Nat → Option Nat}
    (hU : 0 < U) (h1 : ∀ v, v < V → src v = true → d v = 0) (h2 : ∀ v, v < V → ¬ src v = true → d v = U) (h3 : ∀ v, v < V → p v = none) : ns_K V H fr tt ln rc π U src 0 true d p :=
  ⟨ns_B_mono (ns_B_0 hU h1 h2 h3) (by omega), fun _ => ⟨List.range V, by simp, ns_R_0⟩, fun k => by cases k⟩
/-- the search's end -/
theorem ns_K_C {V H : Nat} {fr tt : Nat → Nat} {ln rc π : Nat → Int} {U : Int} {src : Nat → Bool} {r : Nat} {ch : Bool} {d : Nat → Int} {p : Nat → Option Nat}
    (hG : ns_G V H fr tt ln) (h : ns_K V H fr tt ln rc π U src r ch d p) (he : ch = false ∨ r = V) : ns_C H fr tt ln rc U (2 * H) d := by
  obtain ⟨h1, h2, h3⟩ := h
  cases ch with
  | false => exact h3 rfl
  | true =>
    obtain ⟨l, hl, hR⟩ := h2 rfl
    have : r = V := by
      rcases he with k | k
      · cases k
      · exact k
    exact ns_R_C hG hR (by omega)
