/-! run -/
theorem da_c0 : (0 : Int32).toNatClampNeg = 0 := by decide
theorem da_c1 : (1 : Int32).toNatClampNeg = 1 := by decide
theorem da_xsr36 {post : SX → Prop} {qd ll ln rs bu cy ex oh oc sh sc : Int32} {op x y z rg ce ar ps on ls pl ov oa sl : Nat → Int32}
    (hp : post (qd, ll, ln, rs, 0, cy, 0, 0, 0, 0, 0, op, x, y, z, rg, ce, ar, (upd (upd ps 0 0) 1 0), (upd (upd on 0 0) 1 0), ls, pl, ov, oa, sl)) :
    wX_startRun_36 post qd ll ln rs bu cy ex oh oc sh sc 3 0 op x y z rg ce ar ps on ls pl ov oa sl := by
  have v0 : vp_in (0 : Int32) 2 := vp_in_nI (n := 0) (by decide) (by decide)
  have v1 : vp_in (1 : Int32) 2 := vp_in_nI (n := 1) (by decide) (by decide)
  exact br_f (by decide) ⟨v0, nm_r (congrArg (fun t => upd ps t 0) da_c0) ⟨v0, nm_r (congrArg (fun t => upd on t 0) da_c0) (nm_r (e' := 1) (by decide)
    (br_f (by decide) ⟨v1, nm_r (congrArg (fun t => upd (upd ps 0 0) t 0) da_c1) ⟨v1, nm_r (congrArg (fun t => upd (upd on 0 0) t 0) da_c1) (nm_r (e' := 2) (by decide) (br_t (by decide) hp))⟩⟩))⟩⟩
theorem da_xsr10 {post : SX → Prop} {qd ll ln rs bu cy ex oh oc sh sc : Int32} {op x y z rg ce ps on ls pl ov oa sl : Nat → Int32}
    (hp : ∀ g : Nat → Int32, (∀ r, r < 8 → g r = rg r) → post (qd, ll, ln, rs, 0, cy, 0, 0, 0, 0, 0, op, x, y, z, rg, ce, g, (upd (upd ps 0 0) 1 0), (upd (upd on 0 0) 1 0), ls, pl, ov, oa, sl)) :
    ∀ (d i : Nat) (g : Nat → Int32), i + d = 8 → (∀ r, r < i → g r = rg r) →
    wX_startRun_10 post qd ll ln rs bu cy ex oh oc sh sc (d + 1) (nI i) op x y z rg ce g ps on ls pl ov oa sl := by
  intro d
  induction d with
  | zero =>
    intro i g h hg
    exact br_t (nI_le (a := 8) (by omega) (by omega)) ⟨3, da_xsr36 (hp g (fun r hr => hg r (by omega)))⟩
  | succ d ih =>
    intro i g h hg
    have v : vp_in (nI i) 8 := vp_in_nI (by omega) (by decide)
    have e : (nI i).toNatClampNeg = i := nI_clamp (by omega)
    refine br_f (nI_ge (b := 8) (by omega) (by decide)) ⟨v, v, nm_r (congrArg (fun t => upd g t (rg t)) e) (nm_r (nI_1 i) (ih (i + 1) _ (by omega) (fun r hr => ?_)))⟩
    by_cases c : r = i
    · rw [c]; exact pk_us
    · exact (pk_un c).trans (hg r (by omega))
theorem da_xstart {post : SX → Prop} {qd ll rs bu cy ex oh oc sh sc : Int32} {op x y z rg ce ar ps on ls pl ov oa sl : Nat → Int32} {n : Nat} (hn : n ≤ 24) (hok : ∀ i, i < n → da_ok op x y z i)
    (hp : ∀ g : Nat → Int32, (∀ r, r < 8 → g r = rg r) → post (qd, ll, (nI n), (nI (da_X op x y z n)), 0, cy, 0, 0, 0, 0, 0, op, x, y, z, rg, ce, g, (upd (upd ps 0 0) 1 0), (upd (upd on 0 0) 1 0), ls, pl, ov, oa, sl)) :
    wpX_startRun post (qd, ll, (nI n), rs, bu, cy, ex, oh, oc, sh, sc, op, x, y, z, rg, ce, ar, ps, on, ls, pl, ov, oa, sl) := by
  unfold wpX_startRun
  exact da_xside hn hok ⟨9, da_xsr10 hp 8 0 ar (by omega) (fun r hr => absurd hr (Nat.not_lt_zero r))⟩
theorem da_xir {post : Int32 → Prop} {qd ll rs bu cy ex oh oc sh sc : Int32} {op x y z rg ce ar ps on ls pl ov oa sl : Nat → Int32} {n pa pe : Nat} (hn : n < 100) (ha : ps 0 = nI pa) (he : ps 1 = nI pe) (hpa : pa ≤ n) (hpe : pe ≤ n)
    (h1 : pa < n ∨ pe < n → post 1) (h0 : pa = n → pe = n → post 0) : wpX_isRunning post (qd, ll, (nI n), rs, bu, cy, ex, oh, oc, sh, sc, op, x, y, z, rg, ce, ar, ps, on, ls, pl, ov, oa, sl) := by
  simp only [wpX_isRunning, ha, he]
  by_cases c : pa < n
  · exact br_t (nI_lt c (by omega)) (h1 (Or.inl c))
  · refine br_f (nI_nlt (by omega) (by omega)) ?_
    by_cases c2 : pe < n
    · exact br_f (nI_ge c2 (by omega)) (h1 (Or.inr c2))
    · exact br_t (nI_le (by omega) (by omega)) (h0 (by omega) (by omega))
theorem da_V_up {op x y z : Nat → Int32} {tr : Nat → da_St} {sd : Nat → Bool} {dq e a c H : Nat} {As : List Nat} {B Hs : Nat} {bu ex oh oc sh sc : Int32} {rg ce ar ps on ls pl ov oa sl : Nat → Int32} (V : da_V op x y z sd tr dq e a c H As B Hs bu ex oh oc sh sc rg ce ar ps on ls pl ov oa sl) : da_V op x y z sd tr dq e a (c + 1) H As B Hs bu ex oh oc sh sc rg ce ar ps on ls pl ov oa sl := by
  obtain ⟨v1, v2, v3, v4, v5, v6, v7, v8⟩ := V
  exact ⟨v1, v2, v3, v4, v5, v6, da_IO_up op x y z v7, v8⟩
theorem da_hd6 {op x y z : Nat → Int32} {tr : Nat → da_St} {sd : Nat → Bool} {dq e a c H : Nat} {As : List Nat} {B Hs : Nat} {bu ex oh oc sh sc : Int32} {rg ce ar ps on ls pl ov oa sl : Nat → Int32} (V : da_V op x y z sd tr dq e a c H As B Hs bu ex oh oc sh sc rg ce ar ps on ls pl ov oa sl) : As.headD 0 ≤ c + 6 := by
  have h := V.2.2.2.2.2.2.1.2.2.2.2.2.2.1
  cases As with
  | nil => exact Nat.zero_le _
  | cons t l => exact h t List.mem_cons_self
theorem da_xloop {post : Int32 → SX → Prop} {op x y z : Nat → Int32} {n K m l dq : Nat} {sd : Nat → Bool} {tr : Nat → da_St}
    (F : da_F op x y z n K m sd tr) (hd1 : 1 ≤ dq) (hd4 : dq ≤ 4) (hl6 : l ≤ 6)
    (hp : ∀ (bu cy oh oc sh sc : Int32) (ar ps on ls pl ov oa sl : Nat → Int32), post (nI K) ((nI dq), (nI l), (nI n), (nI m), bu, cy, (nI K), oh, oc, sh, sc, op, x, y, z, ((tr K).2.1), ((tr K).2.2.1), ar, ps, on, ls, pl, ov, oa, sl)) :
    ∀ (N c e a H : Nat) (As : List Nat) (B Hs : Nat) (bu cy ex oh oc sh sc : Int32) (rg ce ar ps on ls pl ov oa sl : Nat → Int32), da_V op x y z sd tr dq e a c H As B Hs bu ex oh oc sh sc rg ce ar ps on ls pl ov oa sl → e ≤ a → a ≤ K →
      7 * (K - e) + 7 * (K - a) + (As.headD 0 - c) ≤ N → c + N < 1000000 →
      wX_run_16 post (N + 1) (nI c) (nI dq) (nI l) (nI n) (nI m) bu cy ex oh oc sh sc op x y z rg ce ar ps on ls pl ov oa sl := by
  have F' := F
  obtain ⟨G, ht, hlt, hKn, hI, _⟩ := F'
  have hn24 := G.1
  intro N
  induction N with
  | zero =>
    intro c e a H As B Hs bu cy ex oh oc sh sc rg ce ar ps on ls pl ov oa sl V hea haK hN hc
    have V' := V
    obtain ⟨v1, v2, v3, ⟨p1, _⟩, ⟨p2, _⟩, _⟩ := V'
    have e1 : e = K := by omega
    have e2 : a = K := by omega
    rw [e1, hKn] at p1
    rw [e2, hKn] at p2
    refine br_f (nI_ge (b := 1000000) (by omega) (by decide)) (da_xir (by omega) p2 p1 (Nat.le_refl _) (Nat.le_refl _) (fun h => by omega) (fun _ _ => br_t rfl ?_))
    rw [v1, v2, v3, e1]
    exact hp _ _ _ _ _ _ _ _ _ _ _ _ _ _
  | succ N ih =>
    intro c e a H As B Hs bu cy ex oh oc sh sc rg ce ar ps on ls pl ov oa sl V hea haK hN hc
    have V' := V
    obtain ⟨v1, v2, v3, ⟨p1, _⟩, ⟨p2, _⟩, _⟩ := V'
    by_cases e1 : e = K
    · have e2 : a = K := by omega
      rw [e1, hKn] at p1
      rw [e2, hKn] at p2
      refine br_f (nI_ge (b := 1000000) (by omega) (by decide)) (da_xir (by omega) p2 p1 (Nat.le_refl _) (Nat.le_refl _) (fun h => by omega) (fun _ _ => br_t rfl ?_))
      rw [v1, v2, v3, e1]
      exact hp _ _ _ _ _ _ _ _ _ _ _ _ _ _
    · have heK : e < K := by omega
      have hpe := hlt e heK
      have hpa := (hI a haK).1
      refine br_f (nI_ge (b := 1000000) (by omega) (by decide)) (da_xir (by omega) p2 p1 hpa (by omega) (fun _ => br_f da_n10 ?_) (fun _ h => by omega))
      refine da_XE F hd1 hd4 hea heK haK (by omega) V ?_ ?_
      · intro H' As' Hs' ex' oh' oc' sh' sc' rg' ce' ps' on' ls' pl' V2 hm
        refine da_XA F hd1 hd4 hl6 (hm.elim (fun h => Or.inl h) (fun h => Or.inr ⟨by omega, h.2⟩)) heK haK (by omega) V2 ?_ ?_
        · intro As2 B2 bu2 oc2 sc2 ar2 ps2 on2 ls2 pl2 ov2 oa2 sl2 V3 haK2
          have h6 := da_hd6 V3
          exact nm_r (nI_1 c) (ih (c + 1) (e + 1) (a + 1) _ _ _ _ _ _ _ _ _ _ _ _ _ _ _ _ _ _ _ _ _ (da_V_up V3) (by omega) (by omega) (by omega) (by omega))
        · intro he2 _
          have h6 := da_hd6 V2
          exact nm_r (nI_1 c) (ih (c + 1) (e + 1) a _ _ _ _ _ _ _ _ _ _ _ _ _ _ _ _ _ _ _ _ _ (da_V_up V2) (by omega) (by omega) (by omega) (by omega))
      · intro hs
        refine da_XA F hd1 hd4 hl6 (Or.inl hea) (by omega) haK (by omega) V ?_ ?_
        · intro As2 B2 bu2 oc2 sc2 ar2 ps2 on2 ls2 pl2 ov2 oa2 sl2 V3 haK2
          have h6 := da_hd6 V3
          clear hs
          exact nm_r (nI_1 c) (ih (c + 1) e (a + 1) _ _ _ _ _ _ _ _ _ _ _ _ _ _ _ _ _ _ _ _ _ (da_V_up V3) (by omega) (by omega) (by omega) (by omega))
        · intro _ h2
          have h3 : As.headD 0 - (c + 1) + 1 ≤ As.headD 0 - c := by
            rcases hs with h | ⟨t, As', h, h'⟩
            · omega
            · rw [h]
              show t - (c + 1) + 1 ≤ t - c
              omega
          clear hs
          exact nm_r (nI_1 c) (ih (c + 1) e a _ _ _ _ _ _ _ _ _ _ _ _ _ _ _ _ _ _ _ _ _ (da_V_up V) hea haK (by omega) (by omega))
theorem da_V0 {op x y z rg ce lf g ps on ls pl ov oa sl : Nat → Int32} {sd : Nat → Bool} {dq : Nat} (hg : ∀ r, r < 8 → g r = rg r) :
    da_V op x y z sd (da_tr op x y z (0, rg, ce, lf)) dq 0 0 0 0 [] 0 0 0 0 0 0 0 0 rg ce g (upd (upd ps 0 0) 1 0) (upd (upd on 0 0) 1 0) ls pl ov oa sl := by
  refine ⟨rfl, rfl, rfl, ⟨rfl, rfl, trivial⟩, ⟨rfl, rfl, trivial⟩, fun r hr _ => hg r hr, ⟨rfl, rfl, Nat.zero_le _, trivial, rfl, trivial, (fun t ht => nomatch ht), rfl, Nat.zero_le _, fun h => absurd h (by decide)⟩, ⟨rfl, rfl, Nat.zero_le _, trivial⟩⟩
theorem i_vc_run {k : Nat} {u : SX} {v : SY} (I : i_Rel k u v) (hk : k + 5 ≤ 2562) : wpX_run (fun r u' => wpY_run (fun r' v' => r' = r ∧ i_Rel (k + 5) u' v') v) u := by
  obtain ⟨dq, lt, n, rs, bu, cy, ex, oh, oc, sh, sc, op, x, y, z, rg, ce, ar, ps, on, ls, pl, ov, oa, sl, lf, h1, h2, h3, h4, h5, h6, rfl, rfl⟩ := I
  unfold wpX_run wpY_run
  dsimp only
  by_cases hw : da_wf op y n = true
  · obtain ⟨K, hK, F⟩ := da_F_mk op x y z h5 h6 hw rg ce lf
    refine da_xwf h5 h6 ?_
    rw [hw]
    refine br_f da_n10 (da_xstart h5 h6 (fun g hg => ⟨14 * 864 + 1, ?_⟩))
    refine da_xloop F h1 h2 h4 ?_ (14 * 864) 0 0 0 0 [] 0 0 _ _ _ _ _ _ _ _ _ _ _ _ _ _ _ _ _ (da_V0 hg) (Nat.le_refl _) (Nat.zero_le _) (by show 7 * (K - 0) + 7 * (K - 0) + (0 - 0) ≤ 14 * 864; omega) (by decide)
    intro bu cy oh oc sh sc ar ps on ls pl ov oa sl
    refine da_ywf h5 h6 ?_
    rw [hw]
    exact br_f da_n10 ⟨K + 1, da_yloop F hK ⟨rfl, da_Rel _ h1 h2 h3 h4 h5 h6⟩ K 0 (by omega)⟩
  · have hw' := Bool.eq_false_iff.mpr hw
    refine da_xwf h5 h6 ?_
    rw [hw']
    refine br_t rfl (da_ywf h5 h6 ?_)
    rw [hw']
    exact br_t rfl ⟨rfl, da_Rel _ h1 h2 h3 h4 h5 h6⟩
