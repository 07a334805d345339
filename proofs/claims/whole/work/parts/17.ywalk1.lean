/-! 17: the reference's walks: reset, an edge laid, the search, the bottleneck, the push -/
theorem wy_reset {n m : Nat} {st tc sf ec : Int32} {aT aH aC aK aS aJ W F T C K D P Q : Nat → Int32} {post : SY → Prop} (h : ∀ W' : Nat → Int32, (∀ v, v < 24 → W' v = 0) → post ((nI n), (nI m), 0, 0, 0, ec, aT, aH, aC, aK, aS, aJ, W', F, T, C, K, D, P, Q)) : wpY_reset post ((nI n), (nI m), st, tc, sf, ec, aT, aH, aC, aK, aS, aJ, W, F, T, C, K, D, P, Q) := by
  unfold wpY_reset
  exact loop_0 (fun k i W => wY_reset_17 post (nI n) (nI m) 0 0 0 ec k (nI i) aT aH aC aK aS aJ W F T C K D P Q) (fun i W => ∀ v, v < i → W v = 0) 24 W (fun v hv => absurd hv (Nat.not_lt_zero _))
    (fun k W hW => br_t (nI_le (a := 24) (b := 24) (Nat.le_refl _) (by decide)) (h W hW))
    (fun k i W hi hW ih => br_f (nI_ge (b := 24) hi (by decide)) ⟨vp_in_nI (by omega) (by omega), nm_r (e' := upd W i 0) (by rw [nI_clamp (by omega), ni_b0]) (nm_r (nI_1 i) (ih _ (fun v hv => by
      by_cases q : v = i
      · rw [q, nu_s]
      · rw [nu_n q]; exact hW v (by omega))))⟩)
theorem wy_add {n m : Nat} {st tc sf ec : Int32} {aT aH aC aK aS aJ W F T C K D P Q : Nat → Int32} {post : SY → Prop} {j s t : Nat} {x y : Int32} (hj : j < 120)
    (h : post ((nI n), (nI m), st, tc, sf, (nI (2 * (j + 1))), aT, aH, aC, aK, aS, aJ, W, (ns_u2 F j (nI s) (nI t)), (ns_u2 T j (nI t) (nI s)), (ns_u2 C j x 0), (ns_u2 K j y (-y)), D, P, Q)) : wpY_addEdge post ((nI n), (nI m), st, tc, sf, (nI (2 * j)), aT, aH, aC, aK, aS, aJ, W, F, T, C, K, D, P, Q) (nI s) (nI t) x y := by
  have e1 : (nI (2 * j)).toNatClampNeg = 2 * j := nI_clamp (by omega)
  have e2 : (nI (2 * j + 1)).toNatClampNeg = 2 * j + 1 := nI_clamp (by omega)
  have i1 : vp_in (nI (2 * j)) 240 := vp_in_nI (by omega) (by omega)
  have i2 : vp_in (nI (2 * j + 1)) 240 := vp_in_nI (by omega) (by omega)
  refine br_t (nI_le (b := 238) (by omega) (by decide)) ⟨i1, nm_r (e' := upd F (2 * j) (nI s)) (by rw [e1]) ⟨i1, nm_r (e' := upd T (2 * j) (nI t)) (by rw [e1]) ⟨i1, nm_r (e' := upd C (2 * j) x) (by rw [e1]) ⟨i1, nm_r (e' := upd K (2 * j) y) (by rw [e1])
    (nm_r (nI_1 (2 * j)) ⟨i2, nm_r (e' := ns_u2 F j (nI s) (nI t)) (by rw [e2]; rfl) ⟨i2, nm_r (e' := ns_u2 T j (nI t) (nI s)) (by rw [e2]; rfl) ⟨i2, nm_r (e' := ns_u2 C j x 0) (by rw [e2]; rfl) ⟨i2, nm_r (e' := ns_u2 K j y (-y)) (by rw [e2]; rfl)
      (nm_r (nI_1 (2 * j + 1)) h)⟩⟩⟩⟩)⟩⟩⟩⟩
def ny_src (n v : Nat) : Bool := decide (v = n)
theorem wy_190 {n m : Nat} {st tc sf ec : Int32} {aT aH aC aK aS aJ W F T C K D P Q : Nat → Int32} {post : Int32 → SY → Prop} (hn : n ≤ 24) (h0 : D (n + 1) = 1000000000 → post 0 ((nI n), (nI m), st, tc, sf, ec, aT, aH, aC, aK, aS, aJ, W, F, T, C, K, D, P, Q)) (h1 : ¬ D (n + 1) = 1000000000 → post 1 ((nI n), (nI m), st, tc, sf, ec, aT, aH, aC, aK, aS, aJ, W, F, T, C, K, D, P, Q)) : wY_shortest_190 post (nI (n + 1)) (nI n) (nI m) st tc sf ec aT aH aC aK aS aJ W F T C K D P Q := by
  have e1 : (nI (n + 1)).toNatClampNeg = n + 1 := nI_clamp (by omega)
  refine ⟨vp_in_nI (by omega) (by omega), br_c (fun q => h0 ?_) (fun q => h1 ?_)⟩
  · rw [e1] at q; exact q
  · rw [e1] at q; exact q
theorem wy_short {n m : Nat} {st tc sf ec : Int32} {aT aH aC aK aS aJ W F T C K D P Q : Nat → Int32} {post : Int32 → SY → Prop} {H : Nat} {π : Nat → Int} (hn : n ≤ 24) (hH : H ≤ 120) (hec : ec = nI (2 * H)) (hG : ns_G (n + 2) H (ns_n F) (ns_n T) (ns_t K)) (hE : ∀ e, e < 2 * H → F e = nI (ns_n F e) ∧ T e = nI (ns_n T e)) (hP : ns_Pot H (ns_n F) (ns_n T) (ns_t K) (ns_t C) π)
    (h : ∀ D P : Nat → Int32, ns_B (n + 2) H (ns_n F) (ns_n T) (ns_t K) (ns_t C) 1000000000 (ny_src n) 400000 (ns_t D) (ns_yp P) → ns_C H (ns_n F) (ns_n T) (ns_t K) (ns_t C) 1000000000 (2 * H) (ns_t D) →
      (D (n + 1) = 1000000000 → post 0 ((nI n), (nI m), st, tc, sf, ec, aT, aH, aC, aK, aS, aJ, W, F, T, C, K, D, P, Q)) ∧ (¬ D (n + 1) = 1000000000 → post 1 ((nI n), (nI m), st, tc, sf, ec, aT, aH, aC, aK, aS, aJ, W, F, T, C, K, D, P, Q))) : wpY_shortest post ((nI n), (nI m), st, tc, sf, ec, aT, aH, aC, aK, aS, aJ, W, F, T, C, K, D, P, Q) (nI n) (nI (n + 1)) := by
  have in_n : vp_in (nI n) 26 := vp_in_nI (by omega) (by omega)
  have en : (nI n).toNatClampNeg = n := nI_clamp (by omega)
  refine nm_r (e' := nI (n + 2)) (nI_add n 2) ?_
  refine loop_0 (fun k i (s : (Nat → Int32) × (Nat → Int32)) => wY_shortest_10 post (nI n) (nI (n + 1)) (nI (n + 2)) (nI n) (nI m) st tc sf ec k (nI i) aT aH aC aK aS aJ W F T C K s.1 s.2 Q) (fun i s => ∀ v, v < i → s.1 v = 1000000000 ∧ s.2 v = -1) 26 (D, P) (fun v hv => absurd hv (Nat.not_lt_zero _))
    (fun k s hs => br_t (nI_le (a := 26) (b := 26) (Nat.le_refl _) (by decide)) ⟨in_n, nm_r (e' := upd s.1 n 0) (by rw [en]) ?_⟩)
    (fun k i s hi hs ih => br_f (nI_ge (b := 26) hi (by decide)) ⟨vp_in_nI (by omega) (by omega), nm_r (e' := upd s.1 i 1000000000) (by rw [nI_clamp (by omega)]) ⟨vp_in_nI (by omega) (by omega), nm_r (e' := upd s.2 i (-1)) (by rw [nI_clamp (by omega)]) (nm_r (nI_1 i) (ih (_, _) (fun v hv => ?_)))⟩⟩)
  · have K0 : ns_K (n + 2) H (ns_n F) (ns_n T) (ns_t K) (ns_t C) π 1000000000 (ny_src n) 0 true (ns_t (upd s.1 n 0)) (ns_yp s.2) := by
      refine ns_K_0 (by decide) (fun v hv k => ?_) (fun v hv k => ?_) (fun v hv => ?_)
      · have k : v = n := of_decide_eq_true k
        show (upd s.1 n 0 v).toInt = 0
        rw [k, nu_s, ni_0]
      · have k : ¬ v = n := fun z => k (decide_eq_true z)
        show (upd s.1 n 0 v).toInt = 1000000000
        rw [nu_n k, (hs v (by omega)).1, ni_I]
      · unfold ns_yp
        rw [(hs v (by omega)).2, if_pos (by decide)]
    have fin : ∀ (r : Nat) (g : Bool) (D P : Nat → Int32), r ≤ n + 2 → ns_K (n + 2) H (ns_n F) (ns_n T) (ns_t K) (ns_t C) π 1000000000 (ny_src n) r g (ns_t D) (ns_yp P) → (g = false ∨ r = n + 2) → wY_shortest_190 post (nI (n + 1)) (nI n) (nI m) st tc sf ec aT aH aC aK aS aJ W F T C K D P Q := by
      intro r g D P hr hK he
      have q := h D P (ns_B_mono hK.1 (by omega)) (ns_K_C hG hK he)
      exact wy_190 hn q.1 q.2
    refine loop_0 (fun k i (s : (Nat → Int32) × (Nat → Int32)) => wY_shortest_50 post (nI (n + 1)) (nI (n + 2)) (nI n) (nI m) st tc sf ec k (nI i) aT aH aC aK aS aJ W F T C K s.1 s.2 Q)
      (fun i s => ns_K (n + 2) H (ns_n F) (ns_n T) (ns_t K) (ns_t C) π 1000000000 (ny_src n) i true (ns_t s.1) (ns_yp s.2)) (n + 2) (upd s.1 n 0, s.2) K0
      (fun k t ht => br_t (nI_le (Nat.le_refl _) (by omega)) (fin (n + 2) true t.1 t.2 (Nat.le_refl _) ht (Or.inr rfl))) (fun k r t hr ht ih => br_f (nI_ge hr (by omega)) ?_)
    obtain ⟨l, w, c, hl, hw, hJ⟩ := ns_K_J ht hr
    refine loop_0 (fun j i (u : Int32 × (Nat → Int32) × (Nat → Int32)) => wY_shortest_62 post (wY_shortest_50 post (nI (n + 1)) (nI (n + 2)) (nI n) (nI m) st tc sf ec k) (nI (n + 1)) (nI (n + 2)) (nI r) (nI n) (nI m) st tc sf ec j u.1 (nI i) aT aH aC aK aS aJ W F T C K u.2.1 u.2.2 Q)
      (fun i u => (u.1 = 0 ∨ u.1 = 1) ∧ ns_J (n + 2) H (ns_n F) (ns_n T) (ns_t K) (ns_t C) π 1000000000 (ny_src n) (12000 * r) l w c i (decide (u.1 = 1)) (ns_t u.2.1) (ns_yp u.2.2)) (2 * H) (0, t.1, t.2) ⟨Or.inl rfl, hJ⟩
      (fun j u hu => br_t (by rw [hec]; exact nI_le (Nat.le_refl _) (by omega)) (br_c (fun q => ?_) (fun q => nm_r (nI_1 r) (ih (u.2.1, u.2.2) ?_))))
      (fun j i u hi hu ih2 => br_f (by rw [hec]; exact nI_ge hi (by omega)) ?_)
    · have K1 := ns_J_K hu.2 hH hl hw
      exact fin (r + 1) _ u.2.1 u.2.2 (by omega) K1 (Or.inl (decide_eq_false (by rw [q]; decide)))
    · have u1 : u.1 = 1 := by
        rcases hu.1 with z | z
        · exact absurd z q
        · exact z
      have K1 := ns_J_K hu.2 hH hl hw
      rw [decide_eq_true u1] at K1
      exact K1
    · obtain ⟨u1, u2⟩ := hu
      obtain ⟨f1, f2⟩ := hE i hi
      obtain ⟨g1, g2, g3, g4, g5, g6, g7, g8⟩ := hG i hi
      have e := ny_e hG hi hH (by omega) (by omega) hP u2
      have iI : vp_in (nI i) 240 := vp_in_nI (by omega) (by omega)
      have iF : vp_in (nI (ns_n F i)) 26 := vp_in_nI (by omega) (by omega)
      have iT : vp_in (nI (ns_n T i)) 26 := vp_in_nI (by omega) (by omega)
      have ei : (nI i).toNatClampNeg = i := nI_clamp (by omega)
      refine ⟨iI, nm_r (e' := nI (ns_n F i)) (by rw [ei]; exact f1) ⟨iI, nm_r (e' := nI (ns_n T i)) (by rw [ei]; exact f2) ⟨iI, ?_⟩⟩⟩
      rw [ei, nI_clamp (show ns_n F i < 2 ^ 31 by omega), nI_clamp (show ns_n T i < 2 ^ 31 by omega)]
      exact br_c (fun q => nm_r (nI_1 i) (ih2 (u.1, u.2.1, u.2.2) ⟨u1, e.1 (Or.inl q)⟩)) (fun q => ⟨iF, br_c (fun y => nm_r (nI_1 i) (ih2 (u.1, u.2.1, u.2.2) ⟨u1, e.1 (Or.inr (Or.inl y))⟩)) (fun y => ⟨iF, iI, iT,
        br_c (fun z => nm_r (nI_1 i) (ih2 (u.1, u.2.1, u.2.2) ⟨u1, e.1 (Or.inr (Or.inr z))⟩)) (fun z => ⟨iF, iI, iT, nm_e ⟨iT, nm_e (nm_r (nI_1 i) (ih2 (1, _, _) ⟨Or.inr rfl, e.2 q y z⟩))⟩⟩)⟩)⟩)
  · show upd s.1 i 1000000000 v = 1000000000 ∧ upd s.2 i (-1) v = -1
    by_cases q : v = i
    · rw [q, nu_s, nu_s]; exact ⟨rfl, rfl⟩
    · rw [nu_n q, nu_n q]; exact hs v (by omega)
/-- along the path, by the parents -/
theorem wy_bot {n m : Nat} {st tc sf ec : Int32} {aT aH aC aK aS aJ W F T C K D P Q : Nat → Int32} {post : Int32 → Prop} {H : Nat} {d : Nat → Int} {U hi : Int} {ρ : Nat → Nat} (hn : n ≤ 24) (hH : H ≤ 120) (hG : ns_G (n + 2) H (ns_n F) (ns_n T) (ns_t K)) (hE : ∀ e, e < 2 * H → F e = nI (ns_n F e) ∧ T e = nI (ns_n T e))
    (hB : ns_B (n + 2) H (ns_n F) (ns_n T) (ns_t K) (ns_t C) U (ny_src n) hi d (ns_yp P)) (hρ : ∀ v, v < n + 2 → ∀ e, ns_yp P v = some e → ρ (ns_n F e) < ρ v) :
    ∀ (es : List Nat) (v i : Nat) (a : Int32), ns_path (ns_n F) (ns_yp P) n v es → v < n + 2 → i + es.length < n + 2 → 0 < a.toInt →
      (∀ a' : Int32, 0 < a'.toInt → a'.toInt ≤ a.toInt → (∀ e, e ∈ es → a'.toInt ≤ ns_t C e) → post a') → wY_bottleneck_9 post (nI n) (nI n) (nI m) st tc sf ec aT aH aC aK aS aJ W F T C K D P Q (es.length + 1) a (nI v) (nI i) := by
  intro es
  induction es with
  | nil =>
    intro v i a hp hv hi ha h
    exact br_f (nI_ge (b := 26) (show i < 26 by simp at hi; omega) (by decide)) (br_t (by rw [hp.1]) (br_t (by rw [hp.1]) (h a ha (Int.le_refl _) (fun e he => by simp at he))))
  | cons e es ih =>
    intro v i a hp hv hi ha h
    simp only [List.length_cons] at hi
    have hne : v ≠ n := by
      have := (ns_path_tt hG hB hρ (e :: es) v hv hp).2.2 (by simp)
      intro z; rw [z] at this; omega
    obtain ⟨b1, b2, b3, b4, b5, b6⟩ := hB.2.1 v hv e hp.1
    obtain ⟨p1, p2⟩ := ny_some hp.1
    have ev : (nI v).toNatClampNeg = v := nI_clamp (by omega)
    have ee : (nI e).toNatClampNeg = e := nI_clamp (by omega)
    have iE : vp_in (nI e) 240 := vp_in_nI (by omega) (by omega)
    have go : ∀ a' : Int32, 0 < a'.toInt → a'.toInt ≤ a.toInt → a'.toInt ≤ ns_t C e → wY_bottleneck_9 post (nI n) (nI n) (nI m) st tc sf ec aT aH aC aK aS aJ W F T C K D P Q (es.length + 1) a' (nI (ns_n F e)) (nI (i + 1)) := by
      intro a' q1 q2 q3
      refine ih (ns_n F e) (i + 1) a' hp.2 (hG e b1).1 (by omega) q1 (fun a'' r1 r2 r3 => h a'' r1 (by omega) (fun f hf => ?_))
      rcases List.mem_cons.mp hf with z | z
      · rw [z]; omega
      · exact r3 f z
    refine br_f (nI_ge (b := 26) (show i < 26 by omega) (by decide)) (br_f (fun z => hne ((nI_eq (by omega) (by omega)).mp z)) ⟨vp_in_nI (by omega) (by omega), nm_r (e' := nI e) (by rw [ev]; exact p2) (br_t (nI_pos' (by omega)) ⟨iE, ?_⟩)⟩)
    rw [ee]
    refine br_c (fun q => ⟨iE, nm_r (e' := nI (ns_n F e)) (hE e b1).1 (nm_r (nI_1 i) (go a ha (Int.le_refl _) ?_))⟩) (fun q => ⟨iE, nm_e ⟨iE, nm_r (e' := nI (ns_n F e)) (hE e b1).1 (nm_r (nI_1 i) (go (C e) b2 ?_ (Int.le_refl _)))⟩⟩)
    · rw [ni_le] at q; exact q
    · rw [ni_le] at q; omega
theorem wy_push {n m : Nat} {st tc sf ec : Int32} {aT aH aC aK aS aJ W F T C K D P Q : Nat → Int32} {post : SY → Prop} {H : Nat} {rc d : Nat → Int} {U hi : Int} {ρ : Nat → Nat} {a : Int32} (hn : n ≤ 24) (hH : H ≤ 120) (hG : ns_G (n + 2) H (ns_n F) (ns_n T) (ns_t K)) (hE : ∀ e, e < 2 * H → F e = nI (ns_n F e) ∧ T e = nI (ns_n T e))
    (hB : ns_B (n + 2) H (ns_n F) (ns_n T) (ns_t K) rc U (ny_src n) hi d (ns_yp P)) (hρ : ∀ v, v < n + 2 → ∀ e, ns_yp P v = some e → ρ (ns_n F e) < ρ v) (ha : 0 ≤ a.toInt ∧ a.toInt ≤ 3000) :
    ∀ (es : List Nat) (v i : Nat) (C : Nat → Int32) (B : Int), ns_path (ns_n F) (ns_yp P) n v es → v < n + 2 → i + es.length < n + 2 → (∀ k, k < 2 * H → -B ≤ (C k).toInt ∧ (C k).toInt ≤ B) → B + 3000 * es.length ≤ 1000000 →
      (∀ C' : Nat → Int32, ns_t C' = ns_pu a.toInt es (ns_t C) → post ((nI n), (nI m), st, tc, sf, ec, aT, aH, aC, aK, aS, aJ, W, F, T, C', K, D, P, Q)) → wY_push_6 post (nI n) a (nI n) (nI m) st tc sf ec (es.length + 1) (nI v) (nI i) aT aH aC aK aS aJ W F T C K D P Q := by
  intro es
  induction es with
  | nil =>
    intro v i C B hp hv hi hC hb h
    exact br_f (nI_ge (b := 26) (show i < 26 by simp at hi; omega) (by decide)) (br_t (by rw [hp.1]) (h C rfl))
  | cons e es ih =>
    intro v i C B hp hv hi hC hb h
    simp only [List.length_cons] at hi hb
    have hne : v ≠ n := by
      have := (ns_path_tt hG hB hρ (e :: es) v hv hp).2.2 (by simp)
      intro z; rw [z] at this; omega
    obtain ⟨b1, b2, b3, b4, b5, b6⟩ := hB.2.1 v hv e hp.1
    obtain ⟨p1, p2⟩ := ny_some hp.1
    have bf := ns_fl_lt b1
    have ev : (nI v).toNatClampNeg = v := nI_clamp (by omega)
    have ee : (nI e).toNatClampNeg = e := nI_clamp (by omega)
    have ef : (nI (ns_fl e)).toNatClampNeg = ns_fl e := nI_clamp (by omega)
    have iE : vp_in (nI e) 240 := vp_in_nI (by omega) (by omega)
    have iF : vp_in (nI (ns_fl e)) 240 := vp_in_nI (by omega) (by omega)
    have c1 := hC e b1
    have c2 := hC (ns_fl e) bf
    have st := ns_p1_y C e a (by omega) (by omega) (by omega)
    refine br_f (nI_ge (b := 26) (show i < 26 by omega) (by decide)) (br_f (fun z => hne ((nI_eq (by omega) (by omega)).mp z)) ⟨vp_in_nI (by omega) (by omega), nm_r (e' := nI e) (by rw [ev]; exact p2) (br_t (nI_pos' (by omega)) ?_)⟩)
    rw [ns_xor e (by omega)]
    refine ⟨iE, iE, nm_r (e' := upd C e (C e - a)) (by rw [ee]) ⟨iF, iF, nm_r (e' := upd (upd C e (C e - a)) (ns_fl e) (upd C e (C e - a) (ns_fl e) + a)) (by rw [ef]) ⟨iE, nm_r (e' := nI (ns_n F e)) (by rw [ee]; exact (hE e b1).1) (nm_r (nI_1 i)
      (ih (ns_n F e) (i + 1) _ (B + 3000) hp.2 (hG e b1).1 (by omega) (fun k hk => ?_) (by omega) (fun C' hC' => h C' ?_)))⟩⟩⟩
    · have c3 := hC k hk
      have q : (upd (upd C e (C e - a)) (ns_fl e) (upd C e (C e - a) (ns_fl e) + a) k).toInt = ns_p1 a.toInt e (ns_t C) k := congrFun st k
      rw [q]
      by_cases z : k = e
      · rw [z, ns_p1_e]
        show -(B + 3000) ≤ (C e).toInt - a.toInt ∧ (C e).toInt - a.toInt ≤ B + 3000
        omega
      · by_cases z' : k = ns_fl e
        · rw [z', ns_p1_f]
          show -(B + 3000) ≤ (C (ns_fl e)).toInt + a.toInt ∧ (C (ns_fl e)).toInt + a.toInt ≤ B + 3000
          omega
        · rw [ns_p1_n _ _ z z']
          show -(B + 3000) ≤ (C k).toInt ∧ (C k).toInt ≤ B + 3000
          omega
    · rw [hC', st]; rfl
