/-! 20: the relation, and what is owed of the small methods -/
def i_Rel (k : Nat) (u : SX) (v : SY) : Prop := ∃ (n m : Nat) (st tc sf ec : Int32) (aS aT aH aC aK W aF aE aD aP aJ V F T C K D P Q : Nat → Int32),
  u = ((nI n), (nI m), st, tc, sf, aS, aT, aH, aC, aK, W, aF, aE, aD, aP) ∧ v = ((nI n), (nI m), st, tc, sf, ec, aT, aH, aC, aK, aS, aJ, V, F, T, C, K, D, P, Q) ∧ ns_Net n m aS aT aH aC aK ∧ ns_01 n W ∧ (∀ j, j < n → V j = W j)
theorem i_up {k : Nat} {u : SX} {v : SY} (h : i_Rel k u v) : i_Rel (k + 5) u v := h
theorem ir_mk {k n m : Nat} {st tc sf ec : Int32} {aS aT aH aC aK W aF aE aD aP aJ V F T C K D P Q : Nat → Int32} (hN : ns_Net n m aS aT aH aC aK) (h1 : ns_01 n W) (hV : ∀ j, j < n → V j = W j) : i_Rel k ((nI n), (nI m), st, tc, sf, aS, aT, aH, aC, aK, W, aF, aE, aD, aP) ((nI n), (nI m), st, tc, sf, ec, aT, aH, aC, aK, aS, aJ, V, F, T, C, K, D, P, Q) :=
  ⟨n, m, st, tc, sf, ec, aS, aT, aH, aC, aK, W, aF, aE, aD, aP, aJ, V, F, T, C, K, D, P, Q, rfl, rfl, hN, h1, hV⟩
theorem ir_mk0 {k n m : Nat} {st tc sf ec : Int32} {aS aT aH aC aK W aF aE aD aP aJ V F T C K D P Q : Nat → Int32} (hN : ns_Net n m aS aT aH aC aK) (h1 : ∀ v, v < n → W v = 0) (h2 : ∀ v, v < 24 → V v = 0) : i_Rel k ((nI n), (nI m), st, tc, sf, aS, aT, aH, aC, aK, W, aF, aE, aD, aP) ((nI n), (nI m), st, tc, sf, ec, aT, aH, aC, aK, aS, aJ, V, F, T, C, K, D, P, Q) :=
  ir_mk hN (fun v hv => Or.inl (h1 v hv)) (fun j hj => (h2 j (by have := hN.2.1; omega)).trans (h1 j hj).symm)
theorem wc_clamp (x lo hi : Int32) (h : lo.toInt ≤ hi.toInt) : ∃ r : Int32, lo.toInt ≤ r.toInt ∧ r.toInt ≤ hi.toInt ∧ (∀ post : Int32 → Prop, post r → wpX_clamp post x lo hi) ∧ (∀ (post : Int32 → Prop) (u : SY), post r → wpY_clamp post u x lo hi) := by
  by_cases h1 : lo ≤ x
  · by_cases h2 : x ≤ hi
    · exact ⟨x, ni_le.mp h1, ni_le.mp h2, fun post hp => br_t h1 (br_t h2 hp), fun post u hp => br_t h1 (br_t h2 hp)⟩
    · exact ⟨hi, h, Int.le_refl _, fun post hp => br_t h1 (br_f h2 hp), fun post u hp => br_t h1 (br_f h2 hp)⟩
  · exact ⟨lo, Int.le_refl _, h, fun post hp => br_f h1 hp, fun post u hp => br_f h1 hp⟩
theorem wc_ix (x : Int32) (n : Nat) : (x < 0 ∨ (¬ x < 0 ∧ nI n ≤ x)) ∨ ∃ j, j < n ∧ x = nI j := by
  by_cases h0 : x < 0
  · exact Or.inl (Or.inl h0)
  · by_cases h1 : nI n ≤ x
    · exact Or.inl (Or.inr ⟨h0, h1⟩)
    · obtain ⟨j, hj, e⟩ := nI_of h0
      refine Or.inr ⟨j, ?_, e⟩
      by_cases q : j < n
      · exact q
      · exact absurd (by rw [e]; exact nI_le (by omega) hj) h1
theorem wc_bad {x N : Int32} {A B : Prop} (h : x < 0 ∨ (¬ x < 0 ∧ N ≤ x)) (a : A) : (x < 0 → A) ∧ (¬ x < 0 → ((x < N → B) ∧ (¬ x < N → A))) := by
  rcases h with h | ⟨h, h'⟩
  · exact br_t h a
  · exact br_f h (br_f (Int32.not_lt.mpr h') a)
theorem wc_ok {j n : Nat} {A B E : Prop} (hj : j < n) (hn : n < 2 ^ 31) (b : B) : (nI j < 0 → A) ∧ (¬ nI j < 0 → ((nI j < nI n → B) ∧ (¬ nI j < nI n → E))) :=
  br_f (nI_pos (by omega)) (br_t (nI_lt hj hn) b)
theorem wx_nb {n m : Nat} {st tc sf : Int32} {aS aT aH aC aK W aF aE aD aP : Nat → Int32} {post : Int32 → Prop} {x : Int32} (h : x < 0 ∨ (¬ x < 0 ∧ nI n ≤ x)) (hp : post 0) : wpX_isNode post ((nI n), (nI m), st, tc, sf, aS, aT, aH, aC, aK, W, aF, aE, aD, aP) x := by
  rcases h with h | ⟨h, h'⟩
  · exact br_t h hp
  · exact br_f h (br_t h' hp)
theorem wx_nk {n m : Nat} {st tc sf : Int32} {aS aT aH aC aK W aF aE aD aP : Nat → Int32} {post : Int32 → Prop} {j : Nat} (hj : j < n) (hn : n ≤ 24) (hp : post 1) : wpX_isNode post ((nI n), (nI m), st, tc, sf, aS, aT, aH, aC, aK, W, aF, aE, aD, aP) (nI j) :=
  br_f (nI_pos (by omega)) (br_f (nI_ge hj (by omega)) hp)
theorem wx_ab {n m : Nat} {st tc sf : Int32} {aS aT aH aC aK W aF aE aD aP : Nat → Int32} {post : Int32 → Prop} {x : Int32} (h : x < 0 ∨ (¬ x < 0 ∧ nI m ≤ x)) (hp : post 0) : wpX_isArc post ((nI n), (nI m), st, tc, sf, aS, aT, aH, aC, aK, W, aF, aE, aD, aP) x := by
  rcases h with h | ⟨h, h'⟩
  · exact br_t h hp
  · exact br_f h (br_t h' hp)
theorem wx_ak {n m : Nat} {st tc sf : Int32} {aS aT aH aC aK W aF aE aD aP : Nat → Int32} {post : Int32 → Prop} {j : Nat} (hj : j < m) (hm : m ≤ 96) (hp : post 1) : wpX_isArc post ((nI n), (nI m), st, tc, sf, aS, aT, aH, aC, aK, W, aF, aE, aD, aP) (nI j) :=
  br_f (nI_pos (by omega)) (br_f (nI_ge hj (by omega)) hp)
theorem ne_S {n m : Nat} {aS aT aH aC aK : Nat → Int32} (h : ns_Net n m aS aT aH aC aK) (j : Nat) {r : Int32} (hr : -20 ≤ r.toInt ∧ r.toInt ≤ 20) : ns_Net n m (upd aS j r) aT aH aC aK := by
  obtain ⟨a1, a2, a3, a4, a5, a6, a7⟩ := h
  refine ⟨a1, a2, a3, fun v hv => ?_, a5, a6, a7⟩
  by_cases q : v = j
  · rw [q, nu_s]; exact hr
  · rw [nu_n q]; exact a4 v hv
theorem ne_C {n m : Nat} {aS aT aH aC aK : Nat → Int32} (h : ns_Net n m aS aT aH aC aK) (j : Nat) {r : Int32} (hr : 0 ≤ r.toInt ∧ r.toInt ≤ 20) : ns_Net n m aS aT aH (upd aC j r) aK := by
  obtain ⟨a1, a2, a3, a4, a5, a6, a7⟩ := h
  refine ⟨a1, a2, a3, a4, a5, fun v hv => ?_, a7⟩
  by_cases q : v = j
  · rw [q, nu_s]; exact hr
  · rw [nu_n q]; exact a6 v hv
theorem ne_K {n m : Nat} {aS aT aH aC aK : Nat → Int32} (h : ns_Net n m aS aT aH aC aK) (j : Nat) {r : Int32} (hr : -50 ≤ r.toInt ∧ r.toInt ≤ 50) : ns_Net n m aS aT aH aC (upd aK j r) := by
  obtain ⟨a1, a2, a3, a4, a5, a6, a7⟩ := h
  refine ⟨a1, a2, a3, a4, a5, a6, fun v hv => ?_⟩
  by_cases q : v = j
  · rw [q, nu_s]; exact hr
  · rw [nu_n q]; exact a7 v hv
theorem ne_A {n m : Nat} {aS aT aH aC aK : Nat → Int32} (h : ns_Net n m aS aT aH aC aK) (hm : m < 96) {a b : Nat} (ha : a < n) (hb : b < n) (hab : a ≠ b) {r s : Int32} (hr : 0 ≤ r.toInt ∧ r.toInt ≤ 20) (hs : -50 ≤ s.toInt ∧ s.toInt ≤ 50) :
    ns_Net n (m + 1) aS (upd aT m (nI a)) (upd aH m (nI b)) (upd aC m r) (upd aK m s) := by
  obtain ⟨a1, a2, a3, a4, a5, a6, a7⟩ := h
  refine ⟨a1, a2, by omega, a4, fun v hv => ?_, fun v hv => ?_, fun v hv => ?_⟩
  · unfold ns_n
    by_cases q : v = m
    · rw [q, nu_s, nu_s, nI_clamp (show a < 2 ^ 31 by omega), nI_clamp (show b < 2 ^ 31 by omega)]
      exact ⟨rfl, ha, rfl, hb, hab⟩
    · rw [nu_n q, nu_n q]; exact a5 v (by omega)
  · by_cases q : v = m
    · rw [q, nu_s]; exact hr
    · rw [nu_n q]; exact a6 v (by omega)
  · by_cases q : v = m
    · rw [q, nu_s]; exact hs
    · rw [nu_n q]; exact a7 v (by omega)
theorem nl_20 : (20 : Int32).toInt = 20 := by decide
theorem nl_m20 : (-20 : Int32).toInt = -20 := by decide
theorem nl_50 : (50 : Int32).toInt = 50 := by decide
theorem nl_m50 : (-50 : Int32).toInt = -50 := by decide
theorem nl_2 : (2 : Int32).toInt = 2 := by decide
theorem nl_24 : (24 : Int32).toInt = 24 := by decide
theorem i_vc0 (k0 : Int32) : wpX_init (fun u => wpY_init (fun v => i_Rel 1 u v) k0) k0 := by
  obtain ⟨r, r1, r2, hX, hY⟩ := wc_clamp k0 2 24 (by decide)
  rw [nl_2] at r1
  rw [nl_24] at r2
  obtain ⟨n, hn, e⟩ := nI_of (x := r) (by rw [ni_lt, ni_0]; omega)
  rw [e, ni_n hn] at r1 r2
  refine hX _ (hY _ _ ?_)
  rw [e]
  exact ir_mk0 (m := 0) (n := n) ⟨by omega, by omega, by omega, fun v hv => by rw [ni_0]; omega, fun k hk => absurd hk (Nat.not_lt_zero _), fun k hk => absurd hk (Nat.not_lt_zero _), fun k hk => absurd hk (Nat.not_lt_zero _)⟩ (fun _ _ => rfl) (fun _ _ => rfl)
theorem i_vc_addArc {k : Nat} {u : SX} {v : SY} (I : i_Rel k u v) (hk : k + 5 ≤ 2561) (v1 : Int32) (v2 : Int32) (v3 : Int32) (v4 : Int32) : wpX_addArc (fun r u' => wpY_addArc (fun r' v' => r' = r ∧ i_Rel (k + 5) u' v') v v1 v2 v3 v4) u v1 v2 v3 v4 := by
  have I' : i_Rel (k + 5) u v := I
  obtain ⟨n, m, st, tc, sf, ec, aS, aT, aH, aC, aK, W, aF, aE, aD, aP, aJ, V, F, T, C, K, D, P, Q, rfl, rfl, hN, h1, hV⟩ := I
  have hm := hN.2.2.1
  have hn := hN.2.1
  by_cases m96 : m = 96
  · have e : nI m = 96 := by rw [m96]; rfl
    exact br_t e (br_t e ⟨rfl, I'⟩)
  · have e : ¬ nI m = 96 := fun z => m96 ((nI_eq (b := 96) (by omega) (by decide)).mp z)
    refine br_f e ?_
    rcases wc_ix v1 n with b1 | ⟨a, ha, rfl⟩
    · exact wx_nb b1 (br_t rfl (br_f e (wc_bad b1 ⟨rfl, I'⟩)))
    · refine wx_nk ha hn (br_f (by decide) ?_)
      rcases wc_ix v2 n with b2 | ⟨b, hb, rfl⟩
      · exact wx_nb b2 (br_t rfl (br_f e (wc_ok ha (by omega) (wc_bad b2 ⟨rfl, I'⟩))))
      · refine wx_nk hb hn (br_f (by decide) ?_)
        by_cases hab : a = b
        · have q : nI a = nI b := by rw [hab]
          exact br_t q (br_f e (wc_ok ha (by omega) (wc_ok hb (by omega) (br_t q ⟨rfl, I'⟩))))
        · have q : ¬ nI a = nI b := fun z => hab ((nI_eq (by omega) (by omega)).mp z)
          have em : (nI m).toNatClampNeg = m := nI_clamp (by omega)
          have im : vp_in (nI m) 96 := vp_in_nI (by omega) (by omega)
          obtain ⟨r, r1, r2, rX, rY⟩ := wc_clamp v3 0 20 (by decide)
          obtain ⟨s, s1, s2, sX, sY⟩ := wc_clamp v4 (-50) 50 (by decide)
          rw [ni_0] at r1
          rw [nl_20] at r2
          rw [nl_m50] at s1
          rw [nl_50] at s2
          have hN' := ne_A hN (by omega) ha hb hab ⟨r1, r2⟩ ⟨s1, s2⟩
          refine br_f q ⟨im, nm_r (e' := upd aT m (nI a)) (by rw [em]) ⟨im, nm_r (e' := upd aH m (nI b)) (by rw [em]) (rX _ ⟨im, nm_r (e' := upd aC m r) (by rw [em]) (sX _ ⟨im, nm_r (e' := upd aK m s) (by rw [em]) (nm_r (nI_1 m) (wx_reset hn (fun W' hW' => ?_)))⟩)⟩)⟩⟩
          refine br_f e (wc_ok ha (by omega) (wc_ok hb (by omega) (br_f q ⟨im, nm_r (e' := upd aT m (nI a)) (by rw [em]) ⟨im, nm_r (e' := upd aH m (nI b)) (by rw [em]) (rY _ _ ⟨im, nm_r (e' := upd aC m r) (by rw [em]) (sY _ _ ⟨im, nm_r (e' := upd aK m s) (by rw [em]) (nm_r (nI_1 m) (wy_reset (fun V' hV' => ⟨nI_pred m, ir_mk0 hN' hW' hV'⟩)))⟩)⟩)⟩⟩)))
theorem i_vc_setSupply {k : Nat} {u : SX} {v : SY} (I : i_Rel k u v) (hk : k + 5 ≤ 2561) (v1 : Int32) (v2 : Int32) : wpX_setSupply (fun r u' => wpY_setSupply (fun r' v' => r' = r ∧ i_Rel (k + 5) u' v') v v1 v2) u v1 v2 := by
  have I' : i_Rel (k + 5) u v := I
  obtain ⟨n, m, st, tc, sf, ec, aS, aT, aH, aC, aK, W, aF, aE, aD, aP, aJ, V, F, T, C, K, D, P, Q, rfl, rfl, hN, h1, hV⟩ := I
  have hm := hN.2.2.1
  have hn := hN.2.1
  unfold wpX_setSupply
  rcases wc_ix v1 n with b1 | ⟨a, ha, rfl⟩
  · exact wx_nb b1 (br_t rfl (wc_bad b1 ⟨rfl, I'⟩))
  · obtain ⟨r, r1, r2, rX, rY⟩ := wc_clamp v2 (-20) 20 (by decide)
    rw [nl_m20] at r1
    rw [nl_20] at r2
    have em : (nI a).toNatClampNeg = a := nI_clamp (by omega)
    have im : vp_in (nI a) 24 := vp_in_nI (by omega) (by omega)
    exact wx_nk ha hn (br_f (by decide) (rX _ ⟨im, nm_r (e' := upd aS a r) (by rw [em]) (wx_reset hn (fun W' hW' => wc_ok ha (by omega) (rY _ _ ⟨im, nm_r (e' := upd aS a r) (by rw [em]) (wy_reset (fun V' hV' => ⟨rfl, ir_mk0 (ne_S hN a ⟨r1, r2⟩) hW' hV'⟩))⟩)))⟩))
theorem i_vc_setCapacity {k : Nat} {u : SX} {v : SY} (I : i_Rel k u v) (hk : k + 5 ≤ 2561) (v1 : Int32) (v2 : Int32) : wpX_setCapacity (fun r u' => wpY_setCapacity (fun r' v' => r' = r ∧ i_Rel (k + 5) u' v') v v1 v2) u v1 v2 := by
  have I' : i_Rel (k + 5) u v := I
  obtain ⟨n, m, st, tc, sf, ec, aS, aT, aH, aC, aK, W, aF, aE, aD, aP, aJ, V, F, T, C, K, D, P, Q, rfl, rfl, hN, h1, hV⟩ := I
  have hm := hN.2.2.1
  have hn := hN.2.1
  unfold wpX_setCapacity
  rcases wc_ix v1 m with b1 | ⟨a, ha, rfl⟩
  · exact wx_ab b1 (br_t rfl (wc_bad b1 ⟨rfl, I'⟩))
  · obtain ⟨r, r1, r2, rX, rY⟩ := wc_clamp v2 0 20 (by decide)
    rw [ni_0] at r1
    rw [nl_20] at r2
    have em : (nI a).toNatClampNeg = a := nI_clamp (by omega)
    have im : vp_in (nI a) 96 := vp_in_nI (by omega) (by omega)
    exact wx_ak ha hm (br_f (by decide) (rX _ ⟨im, nm_r (e' := upd aC a r) (by rw [em]) (wx_reset hn (fun W' hW' => wc_ok ha (by omega) (rY _ _ ⟨im, nm_r (e' := upd aC a r) (by rw [em]) (wy_reset (fun V' hV' => ⟨rfl, ir_mk0 (ne_C hN a ⟨r1, r2⟩) hW' hV'⟩))⟩)))⟩))
theorem i_vc_setCost {k : Nat} {u : SX} {v : SY} (I : i_Rel k u v) (hk : k + 5 ≤ 2561) (v1 : Int32) (v2 : Int32) : wpX_setCost (fun r u' => wpY_setCost (fun r' v' => r' = r ∧ i_Rel (k + 5) u' v') v v1 v2) u v1 v2 := by
  have I' : i_Rel (k + 5) u v := I
  obtain ⟨n, m, st, tc, sf, ec, aS, aT, aH, aC, aK, W, aF, aE, aD, aP, aJ, V, F, T, C, K, D, P, Q, rfl, rfl, hN, h1, hV⟩ := I
  have hm := hN.2.2.1
  have hn := hN.2.1
  unfold wpX_setCost
  rcases wc_ix v1 m with b1 | ⟨a, ha, rfl⟩
  · exact wx_ab b1 (br_t rfl (wc_bad b1 ⟨rfl, I'⟩))
  · obtain ⟨r, r1, r2, rX, rY⟩ := wc_clamp v2 (-50) 50 (by decide)
    rw [nl_m50] at r1
    rw [nl_50] at r2
    have em : (nI a).toNatClampNeg = a := nI_clamp (by omega)
    have im : vp_in (nI a) 96 := vp_in_nI (by omega) (by omega)
    exact wx_ak ha hm (br_f (by decide) (rX _ ⟨im, nm_r (e' := upd aK a r) (by rw [em]) (wx_reset hn (fun W' hW' => wc_ok ha (by omega) (rY _ _ ⟨im, nm_r (e' := upd aK a r) (by rw [em]) (wy_reset (fun V' hV' => ⟨rfl, ir_mk0 (ne_K hN a ⟨r1, r2⟩) hW' hV'⟩))⟩)))⟩))
