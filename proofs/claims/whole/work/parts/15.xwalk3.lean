/-! 15: the class's walks: the push, the routing, what is left, the cost -/
theorem wx_psh {n m : Nat} {st tc sf : Int32} {aS aT aH aC aK W aF aE aD aP : Nat → Int32} {post : SX → Prop} {d : Nat → Int} {U hi : Int} {src : Nat → Bool} {r : Nat} {x1 : Int32} (hN : ns_Net n m aS aT aH aC aK) (hin : nx_in n m aP)
    (hB : ns_B n m (ns_xf (ns_n aT) (ns_n aH)) (ns_xf (ns_n aH) (ns_n aT)) (ns_xl (ns_t aK)) (ns_xr (ns_t aC) (ns_t aF)) U src hi d (ns_xp (ns_n aH) aP)) (hF : ∀ k, k < m → -100000 ≤ (aF k).toInt ∧ (aF k).toInt ≤ 100000) :
    ∀ (es : List Nat) (v i : Nat) (a : Int32), ns_path (ns_xf (ns_n aT) (ns_n aH)) (ns_xp (ns_n aH) aP) r v es → v < n → i + es.length < n → 0 < a.toInt →
      (∀ a' : Int32, 0 < a'.toInt → a'.toInt ≤ a.toInt → (∀ e, e ∈ es → a'.toInt ≤ (ns_xr (ns_t aC) (ns_t aF)) e) → wX_pushTo_58 post x1 a' (nI r) (nI n) (nI m) st tc sf aS aT aH aC aK W aF aE aD aP) → wX_pushTo_13 post x1 (nI n) (nI m) st tc sf aS aT aH aC aK W aF aE aD aP (es.length + 1) a (nI v) (nI i) := by
  have hm := hN.2.2.1
  have hn := hN.2.1
  intro es
  induction es with
  | nil =>
    intro v i a hp hv hi ha h
    have c1 : (nI v).toNatClampNeg = v := nI_clamp (by omega)
    refine br_f (nI_ge (show i < n by simp at hi; omega) (by omega)) ⟨vp_in_nI (by omega) (by omega), br_t ?_ ?_⟩
    · rw [c1]; exact nx_none hp.2
    · rw [hp.1]; exact h a ha (Int.le_refl _) (fun e he => by simp at he)
  | cons e es ih =>
    intro v i a hp hv hi ha h
    have c1 : (nI v).toNatClampNeg = v := nI_clamp (by omega)
    simp only [List.length_cons] at hi
    obtain ⟨b1, b2, b3, b4, b5, b6⟩ := hB.2.1 v hv e hp.1
    refine br_f (nI_ge (show i < n by omega) (by omega)) ⟨vp_in_nI (by omega) (by omega), br_f ?_ (wx_room hN hv hin hB hp.1 hF (fun rm hrm => wx_small (fun s s1 s2 s3 => wx_prev hN hv hin hB hp.1 (nm_r (nI_1 i)
      (ih ((ns_xf (ns_n aT) (ns_n aH)) e) (i + 1) s hp.2 (nx_G hN e b1).1 (by omega) ?_ (fun a' p1 p2 p3 => h a' p1 (by omega) (fun f hf => ?_)))))))⟩
    · rw [c1]; exact nx_some hp.1
    · rcases s3 with z | z
      · rw [z]; exact ha
      · rw [z, hrm]; exact b2
    · rcases List.mem_cons.mp hf with z | z
      · rw [z, ← hrm]; omega
      · exact p3 f z
theorem nx_eb {n m : Nat} {aS aT aH aC aK aF aE : Nat → Int32} (hN : ns_Net n m aS aT aH aC aK) (hI : ns_XI n m (ns_n aT) (ns_n aH) (ns_t aS) (ns_t aK) (ns_t aC) (ns_t aF) (ns_t aE)) :
    (∀ v, v < n → -2000 ≤ (aE v).toInt ∧ (aE v).toInt ≤ 2000) ∧ (∀ k, k < m → 0 ≤ (aF k).toInt ∧ (aF k).toInt ≤ 20) := by
  have hm := hN.2.2.1
  have f : ∀ k, k < m → 0 ≤ (aF k).toInt ∧ (aF k).toInt ≤ 20 := by
    intro k hk
    have a := hI.1 k hk
    have b := hN.2.2.2.2.2.1 k hk
    have a : 0 ≤ (aF k).toInt ∧ (aF k).toInt ≤ (aC k).toInt := a
    omega
  refine ⟨fun v hv => ?_, f⟩
  have a : (aE v).toInt = ns_exc (ns_t aS) (ns_n aT) (ns_n aH) (ns_t aF) m v := hI.2.1 v hv
  have b := ns_exc_bd (b := ns_t aS) (x := ns_t aF) (tl := (ns_n aT)) (hd := (ns_n aH)) (m := m) (v := v) (hN.2.2.2.1 v hv) (fun k hk => by
    have := f k hk
    show -20 ≤ (aF k).toInt ∧ (aF k).toInt ≤ 20
    omega)
  omega
theorem wx_push {n m : Nat} {st tc sf : Int32} {aS aT aH aC aK W aF aE aD aP : Nat → Int32} {post : SX → Prop} {t : Nat} {π : Nat → Int} (hN : ns_Net n m aS aT aH aC aK) (hI : ns_XI n m (ns_n aT) (ns_n aH) (ns_t aS) (ns_t aK) (ns_t aC) (ns_t aF) (ns_t aE)) (hP : ns_Pot m (ns_xf (ns_n aT) (ns_n aH)) (ns_xf (ns_n aH) (ns_n aT)) (ns_xl (ns_t aK)) (ns_xr (ns_t aC) (ns_t aF)) π)
    (hin : nx_in n m aP) (hB : ns_B n m (ns_xf (ns_n aT) (ns_n aH)) (ns_xf (ns_n aH) (ns_n aT)) (ns_xl (ns_t aK)) (ns_xr (ns_t aC) (ns_t aF)) 1000000 (nx_src aE) 300000 (ns_t aD) (ns_xp (ns_n aH) aP)) (hC : ns_C m (ns_xf (ns_n aT) (ns_n aH)) (ns_xf (ns_n aH) (ns_n aT)) (ns_xl (ns_t aK)) (ns_xr (ns_t aC) (ns_t aF)) 1000000 (2 * m) (ns_t aD))
    (ht : t < n) (h1 : (aE t).toInt < 0) (h2 : ¬ aD t = 1000000)
    (h : ∀ aF' aE' : Nat → Int32, ns_XI n m (ns_n aT) (ns_n aH) (ns_t aS) (ns_t aK) (ns_t aC) (ns_t aF') (ns_t aE') → ns_P (ns_t aE') n < ns_P (ns_t aE) n → post ((nI n), (nI m), st, tc, sf, aS, aT, aH, aC, aK, W, aF', aE', aD, aP)) : wpX_pushTo post ((nI n), (nI m), st, tc, sf, aS, aT, aH, aC, aK, W, aF, aE, aD, aP) (nI t) := by
  have hm := hN.2.2.1
  have hn := hN.2.1
  obtain ⟨bE, bF⟩ := nx_eb hN hI
  have bt := bE t ht
  have c1 : (nI t).toNatClampNeg = t := nI_clamp (by omega)
  have it : vp_in (nI t) 24 := vp_in_nI (by omega) (by omega)
  obtain ⟨es, r, p1, p2, p3, p4⟩ := ns_path_of (nx_G hN) hB ht (show (aD t).toInt ≠ 1000000 by intro z; exact h2 (ni_eq.mpr (by rw [z, ni_U])))
  have p4 : 0 < (aE r).toInt := of_decide_eq_true p4
  have br := bE r p3
  have c2 : (nI r).toNatClampNeg = r := nI_clamp (by omega)
  have ir : vp_in (nI r) 24 := vp_in_nI (by omega) (by omega)
  have htr : t ≠ r := by intro z; rw [z] at h1; omega
  have hg : (-(aE t)).toInt = - (aE t).toInt := ni_neg (by omega) (by omega)
  refine ⟨it, nm_r (e' := -(aE t)) (by rw [c1]) ⟨es.length + 1, wx_psh hN hin hB (fun k hk => by have := bF k hk; omega) es t 0 (-(aE t)) p1 ht (by omega) (by omega) (fun a a1 a2 a3 => ⟨ir, wx_small (fun s s1 s2 s3 => ?_)⟩)⟩⟩
  rw [c2] at s2
  have s0 : 0 < s.toInt := by
    rcases s3 with z | z
    · rw [z]; exact a1
    · rw [z, c2]; exact p4
  refine ⟨ir, ir, nm_r (e' := upd aE r (aE r - s)) (by rw [c2]) ⟨it, it, nm_r (e' := upd (upd aE r (aE r - s)) t (upd aE r (aE r - s) t + s)) (by rw [c1])
    ⟨es.length + 1, wx_chg (aF := aF) hN hin hB (by omega) es t 0 aF 20 p1 ht (by omega) (fun k hk => by have := bF k hk; omega) (by omega) (fun aF' hF' => ?_)⟩⟩⟩
  have q := ns_XI_push (x' := ns_t aF') (e' := ns_t (upd (upd aE r (aE r - s)) t (upd aE r (aE r - s) t + s))) (a := s.toInt) (t := t) (r := r) (nx_G hN) hI hB (by decide) hC hP ht p3 p1 (by omega) (fun f hf => by have := a3 f hf; omega)
    (show s.toInt ≤ - (aE t).toInt by omega) (show s.toInt ≤ (aE r).toInt by omega) h1 p4 hF' (fun v hv => by
      show (upd (upd aE r (aE r - s)) t (upd aE r (aE r - s) t + s) v).toInt = if v = t then (aE t).toInt + s.toInt else if v = r then (aE r).toInt - s.toInt else (aE v).toInt
      by_cases z : v = t
      · rw [z, nu_s, nu_n htr, if_pos rfl, ni_add (by omega) (by omega)]
      · rw [nu_n z, if_neg z]
        by_cases z' : v = r
        · rw [z', nu_s, if_pos rfl, ni_sub (by omega) (by omega)]
        · rw [nu_n z', if_neg z'])
  exact h aF' _ q.1 (by omega)
theorem wx_route {n m : Nat} {st tc sf : Int32} {aS aT aH aC aK W aF aE aD aP : Nat → Int32} {post : SX → Prop} (hN : ns_Net n m aS aT aH aC aK) (hI : ns_XI n m (ns_n aT) (ns_n aH) (ns_t aS) (ns_t aK) (ns_t aC) (ns_t aF) (ns_t aE)) (hp : ns_P (ns_t aE) n ≤ 3000)
    (h : ∀ aF aE aD aP : Nat → Int32, ns_XI n m (ns_n aT) (ns_n aH) (ns_t aS) (ns_t aK) (ns_t aC) (ns_t aF) (ns_t aE) → (∃ Z, ns_Cl n m (ns_n aT) (ns_n aH) (ns_t aC) (ns_t aE) (ns_t aF) Z) → post ((nI n), (nI m), st, tc, sf, aS, aT, aH, aC, aK, W, aF, aE, aD, aP)) : wpX_routeExcess post ((nI n), (nI m), st, tc, sf, aS, aT, aH, aC, aK, W, aF, aE, aD, aP) := by
  have hm := hN.2.2.1
  have hn := hN.2.1
  unfold wpX_routeExcess
  refine loop_0 (fun k i (s : (Nat → Int32) × (Nat → Int32) × (Nat → Int32) × (Nat → Int32)) => wX_routeExcess_2 post k (nI i) (nI n) (nI m) st tc sf aS aT aH aC aK W s.1 s.2.1 s.2.2.1 s.2.2.2)
    (fun i s => ns_XI n m (ns_n aT) (ns_n aH) (ns_t aS) (ns_t aK) (ns_t aC) (ns_t s.1) (ns_t s.2.1) ∧ ns_P (ns_t s.2.1) n + i ≤ 3000) 1000000 (aF, aE, aD, aP) ⟨hI, by dsimp only; omega⟩
    (fun k s hs => absurd hs.2 (by have := ns_P_nn (ns_t s.2.1) n; omega)) (fun k i s hi hs ih => br_f (nI_ge (b := 1000000) hi (by decide)) ?_)
  obtain ⟨hI', hs2⟩ := hs
  obtain ⟨π, hP⟩ := hI'.2.2
  refine wx_find hN hP (fun D P p1 p2 p3 => wx_def hn (fun z => br_t rfl (h _ _ _ _ hI' ⟨_, ns_X_cl (nx_G hN) p2 (by decide) (by decide) p3 (fun v hv k => decide_eq_true k) (fun v hv k => ?_)⟩))
    (fun t ht t1 t2 => br_f (ni_nm1 (by omega)) (wx_push hN hI' hP p1 p2 p3 ht t1 t2 (fun F' E' q1 q2 => nm_r (nI_1 i) (ih (F', E', D, P) ⟨q1, ?_⟩)))))
  · show (D v).toInt = 1000000
    rw [z v hv k, ni_U]
  · show ns_P (ns_t E') n + ((i + 1 : Nat) : Int) ≤ 3000
    omega
theorem wx_unr {n m : Nat} {st tc sf : Int32} {aS aT aH aC aK W aF aE aD aP : Nat → Int32} {post : Int32 → Prop} (hn : n ≤ 24) (hE : ∀ v, v < n → -2000 ≤ (aE v).toInt ∧ (aE v).toInt ≤ 2000) (h : ∀ r : Int32, r.toInt = ns_P (ns_t aE) n → post r) : wpX_unroutedExcess post ((nI n), (nI m), st, tc, sf, aS, aT, aH, aC, aK, W, aF, aE, aD, aP) := by
  unfold wpX_unroutedExcess
  refine loop_0 (fun k i s => wX_unroutedExcess_4 post (nI n) (nI m) st tc sf aS aT aH aC aK W aF aE aD aP k s (nI i)) (fun i s => s.toInt = ns_P (ns_t aE) i) n 0 ni_0
    (fun k s hs => br_t (nI_le (Nat.le_refl _) (by omega)) (h s hs)) (fun k i s hi hs ih => br_f (nI_ge hi (by omega)) ⟨vp_in_nI (by omega) (by omega), ?_⟩)
  rw [nI_clamp (show i < 2 ^ 31 by omega)]
  have b := ns_sm_bd (f := fun v => ns_ps (ns_t aE v)) (B := 2000) i (fun v hv => by
    have := hE v (by omega)
    show -2000 ≤ ns_ps (aE v).toInt ∧ ns_ps (aE v).toInt ≤ 2000
    unfold ns_ps
    split <;> omega)
  have c := hE i hi
  have hs : s.toInt = ns_sm (fun v => ns_ps (ns_t aE v)) i := hs
  refine br_c (fun q => nm_r (nI_1 i) (ih _ ?_)) (fun q => ⟨vp_in_nI (by omega) (by omega), nm_e (nm_r (nI_1 i) (ih _ ?_))⟩)
  · rw [ni_le, ni_0] at q
    show s.toInt = ns_sm (fun v => ns_ps (ns_t aE v)) i + ns_ps (aE i).toInt
    unfold ns_ps
    rw [if_neg (by omega), hs]
    unfold ns_ps
    omega
  · rw [ni_le, ni_0] at q
    show (s + aE i).toInt = ns_sm (fun v => ns_ps (ns_t aE v)) i + ns_ps (aE i).toInt
    rw [ni_add (by omega) (by omega), hs]
    have : ns_ps (aE i).toInt = (aE i).toInt := if_pos (by omega)
    rw [this]
theorem wx_cost {n m : Nat} {st tc sf : Int32} {aS aT aH aC aK W aF aE aD aP : Nat → Int32} {post : Int32 → Prop} (hN : ns_Net n m aS aT aH aC aK) (hF : ∀ k, k < m → 0 ≤ (aF k).toInt ∧ (aF k).toInt ≤ 20) (h : ∀ r : Int32, r.toInt = ns_sm (fun a => ns_t aK a * ns_t aF a) m → post r) : wpX_flowCost post ((nI n), (nI m), st, tc, sf, aS, aT, aH, aC, aK, W, aF, aE, aD, aP) := by
  have hm := hN.2.2.1
  unfold wpX_flowCost
  refine loop_0 (fun k i s => wX_flowCost_4 post (nI n) (nI m) st tc sf aS aT aH aC aK W aF aE aD aP k s (nI i)) (fun i s => s.toInt = ns_sm (fun a => ns_t aK a * ns_t aF a) i) m 0 ni_0
    (fun k s hs => br_t (nI_le (Nat.le_refl _) (by omega)) (h s hs)) (fun k i s hi hs ih => br_f (nI_ge hi (by omega)) ⟨vp_in_nI (by omega) (by omega), vp_in_nI (by omega) (by omega), ?_⟩)
  rw [nI_clamp (show i < 2 ^ 31 by omega)]
  have b := ns_sm_bd (f := fun a => ns_t aK a * ns_t aF a) (B := 1000) i (fun v hv => ns_cx_bd (hN.2.2.2.2.2.2 v (by omega)) (hF v (by omega)))
  have c := ns_cx_bd (hN.2.2.2.2.2.2 i hi) (hF i hi)
  have e : (aK i * aF i).toInt = (aK i).toInt * (aF i).toInt := ni_mul (by omega) (by omega)
  refine nm_e (nm_r (nI_1 i) (ih _ ?_))
  show (s + aK i * aF i).toInt = ns_sm (fun a => ns_t aK a * ns_t aF a) i + (aK i).toInt * (aF i).toInt
  rw [ni_add (by omega) (by omega), hs, e]
