/-! One cycle's second half: access -/
theorem da_xlo {post : SX → Prop} {ln bu ex oh oc sh sc : Int32} {op x y z rg ce ar ps on ls pl ov oa sl : Nat → Int32} {i m c l q Hs H dq : Nat} {C : List Int32} (hi : i < 24) (hm : m < 256) (hx : ∃ a : Nat, a < 8 ∧ x i = nI a) (hy : ∃ b : Nat, b < 8 ∧ y i = nI b)
    (hq : q < 100) (hdq : dq < 100) (hcl : C.length < 100) (hsh : sh = nI (Hs % 4)) (hsc : sc = nI C.length) (hA : da_AR sl Hs C) (hoh : oh = nI (H % 4)) (hoc : oc = nI q)
    (h0 : (dq ≤ q ∨ da_cl y z i ar ∈ C) → post ((nI dq), (nI l), ln, (nI m), bu, (nI c), ex, oh, oc, sh, sc, op, x, y, z, rg, ce, ar, ps, on, ls, pl, ov, oa, sl))
    (hn : q < dq → ¬ da_cl y z i ar ∈ C → m.testBit (x i).toNatClampNeg = false → post ((nI dq), (nI l), ln, (nI m), bu, (nI c), ex, oh, (nI (q + 1)), sh, sc, op, x, y, z, rg, ce, ar, (upd ps 0 (nI (i + 1))), on, ls, pl, (upd ov ((H + q) % 4) (ce (da_cl y z i ar).toNatClampNeg)), (upd oa ((H + q) % 4) (nI (c + l))), sl))
    (hs : q < dq → ¬ da_cl y z i ar ∈ C → m.testBit (x i).toNatClampNeg = true → post ((nI dq), (nI l), ln, (nI m), (nI (c + l)), (nI c), ex, oh, (nI (q + 1)), sh, sc, op, x, y, z, rg, ce, (upd ar (x i).toNatClampNeg (ce (da_cl y z i ar).toNatClampNeg)), (upd ps 0 (nI (i + 1))), on, ls, pl, (upd ov ((H + q) % 4) (ce (da_cl y z i ar).toNatClampNeg)), (upd oa ((H + q) % 4) (nI (c + l))), sl)) :
    wpX_accessLoad post ((nI dq), (nI l), ln, (nI m), bu, (nI c), ex, oh, oc, sh, sc, op, x, y, z, rg, ce, ar, ps, on, ls, pl, ov, oa, sl) (nI i) := by
  have e : (nI i).toNatClampNeg = i := nI_clamp (by omega)
  have v : vp_in (nI i) 24 := vp_in_nI hi (by decide)
  have vx := da_inI (m := 8) (by decide) hx
  have vc := da_inI (m := 16) (by decide) (da_cl_in y z i ar)
  unfold wpX_accessLoad
  refine da_xac hi hy ?_
  by_cases c1 : dq ≤ q
  · exact br_t (by rw [hoc]; exact nI_le c1 (by omega)) (h0 (Or.inl c1))
  · refine br_f (by rw [hoc]; exact nI_ge (by omega) (by omega)) (da_xsp hcl hsh hsc hA (fun hin => ?_) (fun hin => ?_))
    · exact br_f da_n10 (h0 (Or.inr hin))
    · refine br_t rfl (nm_r (nI_add c l) ⟨vc, da_xso2 hq hoh hoc ?_⟩)
      dsimp only
      rw [e]
      refine ⟨v, ?_⟩
      by_cases hb : m.testBit (x i).toNatClampNeg = true
      · refine da_xin1 hm hx hb (br_f da_n10 ⟨v, vc, vx, nm_e ?_⟩)
        simp only [wX_accessLoad_85, nI_1]
        exact nm_e (hs (by omega) hin hb)
      · have hb' := Bool.eq_false_iff.mpr hb
        refine da_xin0 hm hx hb' (br_t rfl ?_)
        simp only [wX_accessLoad_85, nI_1]
        exact nm_e (hn (by omega) hin hb')
theorem da_xst {post : SX → Prop} {ll ln rs bu cy ex oh oc sh sc : Int32} {op x y z rg ce ar ps on ls pl ov oa sl : Nat → Int32} {i q Hs dq : Nat} (hi : i < 24) (hy : ∃ b : Nat, b < 8 ∧ y i = nI b)
    (hq : q < 100) (hdq : dq < 100) (hsh : sh = nI (Hs % 4)) (hsc : sc = nI q)
    (h0 : dq ≤ q → post ((nI dq), ll, ln, rs, bu, cy, ex, oh, oc, sh, sc, op, x, y, z, rg, ce, ar, ps, on, ls, pl, ov, oa, sl))
    (h1 : q < dq → post ((nI dq), ll, ln, rs, bu, cy, ex, oh, oc, sh, (nI (q + 1)), op, x, y, z, rg, ce, ar, (upd ps 0 (nI (i + 1))), on, ls, pl, ov, oa, (upd sl ((Hs + q) % 4) (da_cl y z i ar)))) :
    wpX_accessStore post ((nI dq), ll, ln, rs, bu, cy, ex, oh, oc, sh, sc, op, x, y, z, rg, ce, ar, ps, on, ls, pl, ov, oa, sl) (nI i) := by
  have eH : (nI ((Hs + q) % 4)).toNatClampNeg = (Hs + q) % 4 := nI_clamp (by omega)
  have v4 : vp_in (nI ((Hs + q) % 4)) 4 := vp_in_nI (by omega) (by decide)
  subst hsh hsc
  by_cases c1 : dq ≤ q
  · exact br_f (nI_nlt c1 (by omega)) (h0 c1)
  · refine br_t (nI_lt (by omega) (by omega)) ⟨da_n4, nm_r (da_rm4 Hs q hq) (da_xac hi hy ⟨v4, nm_r (congrArg (fun t => upd sl t (da_cl y z i ar)) eH) (nm_r (nI_1 q) (nm_r (congrArg (fun t => upd ps 0 t) (nI_1 i)) (h1 (by omega))))⟩)⟩
theorem da_xsk {post : SX → Prop} {ll ln rs bu cy ex oh oc sh sc : Int32} {op x y z rg ce ar ps on ls pl ov oa sl : Nat → Int32} {i q H dq b : Nat} (hi : i < 24) (hx : ∃ a : Nat, a < 8 ∧ x i = nI a) (hy : y i = nI b)
    (hq : q < 100) (hdq : dq < 100) (hoh : oh = nI (H % 4)) (hoc : oc = nI q)
    (h0 : dq ≤ q → post ((nI dq), ll, ln, rs, bu, cy, ex, oh, oc, sh, sc, op, x, y, z, rg, ce, ar, ps, on, ls, pl, ov, oa, sl))
    (h1 : q < dq → post ((nI dq), ll, ln, rs, bu, cy, ex, oh, (nI (q + 1)), sh, sc, op, x, y, z, rg, ce, ar, (upd ps 0 (nI (if ar (x i).toNatClampNeg = 0 then i + 1 + b else i + 1))), on, ls, pl, (upd ov ((H + q) % 4) (if ar (x i).toNatClampNeg = 0 then y i else 0)), (upd oa ((H + q) % 4) cy), sl)) :
    wpX_accessSkip post ((nI dq), ll, ln, rs, bu, cy, ex, oh, oc, sh, sc, op, x, y, z, rg, ce, ar, ps, on, ls, pl, ov, oa, sl) (nI i) := by
  have e : (nI i).toNatClampNeg = i := nI_clamp (by omega)
  have v : vp_in (nI i) 24 := vp_in_nI hi (by decide)
  have vx := da_inI (m := 8) (by decide) hx
  simp only [wpX_accessSkip, e]
  by_cases c1 : dq ≤ q
  · exact br_f (by rw [hoc]; exact nI_nlt c1 (by omega)) (h0 c1)
  · have hp := h1 (by omega)
    refine br_t (by rw [hoc]; exact nI_lt (by omega) (by omega)) ⟨v, vx, ?_⟩
    by_cases cz : ar (x i).toNatClampNeg = 0
    · rw [if_pos cz, if_pos cz] at hp
      refine br_t cz ⟨v, ?_⟩
      unfold wX_accessSkip_36
      refine da_xso2 hq hoh hoc (nm_r ?_ hp)
      rw [hy, nI_1, nI_add]
    · rw [if_neg cz, if_neg cz] at hp
      refine br_f cz ?_
      unfold wX_accessSkip_36
      refine da_xso2 hq hoh hoc (nm_r ?_ hp)
      rw [nI_1, Int32.add_zero]
theorem da_xco {post : SX → Prop} {ll ln bu cy ex oh oc sh sc : Int32} {op x y z rg ce ar ps on ls pl ov oa sl : Nat → Int32} {i m q H dq : Nat} (hi : i < 24) (hm : m < 256) (hok : da_ok op x y z i) (k : da_kT op x y z i) (h6 : ¬ op i = 6)
    (hq : q < 100) (hdq : dq < 100) (hoh : oh = nI (H % 4)) (hoc : oc = nI q)
    (hn : m.testBit (x i).toNatClampNeg = false → post ((nI dq), ll, ln, (nI m), bu, cy, ex, oh, oc, sh, sc, op, x, y, z, rg, ce, ar, (upd ps 0 (nI (i + 1))), on, ls, pl, ov, oa, sl))
    (h0 : m.testBit (x i).toNatClampNeg = true → dq ≤ q → post ((nI dq), ll, ln, (nI m), bu, cy, ex, oh, oc, sh, sc, op, x, y, z, rg, ce, ar, ps, on, ls, pl, ov, oa, sl))
    (h1 : m.testBit (x i).toNatClampNeg = true → q < dq → post ((nI dq), ll, ln, (nI m), bu, cy, ex, oh, (nI (q + 1)), sh, sc, op, x, y, z, rg, ce, (upd ar (x i).toNatClampNeg (da_tv op y z i ar ce)), (upd ps 0 (nI (i + 1))), on, ls, pl, (upd ov ((H + q) % 4) (da_tv op y z i ar ce)), (upd oa ((H + q) % 4) cy), sl)) :
    wpX_accessCompute post ((nI dq), ll, ln, (nI m), bu, cy, ex, oh, oc, sh, sc, op, x, y, z, rg, ce, ar, ps, on, ls, pl, ov, oa, sl) (nI i) := by
  have e : (nI i).toNatClampNeg = i := nI_clamp (by omega)
  have v : vp_in (nI i) 24 := vp_in_nI hi (by decide)
  have hx := k.2.2.2.2.2.1
  have vx := da_inI (m := 8) (by decide) hx
  simp only [wpX_accessCompute, e]
  refine ⟨v, ?_⟩
  by_cases hb : m.testBit (x i).toNatClampNeg = true
  · refine da_xin1 hm hx hb (br_f da_n10 ?_)
    by_cases c1 : dq ≤ q
    · exact br_f (by rw [hoc]; exact nI_nlt c1 (by omega)) (h0 hb c1)
    · refine br_t (by rw [hoc]; exact nI_lt (by omega) (by omega)) (da_xca hi hok k h6 ⟨v, vx, nm_e (da_xso2 hq hoh hoc ?_)⟩)
      simp only [wX_accessCompute_59, nI_1]
      exact nm_e (h1 hb (by omega))
  · have hb' := Bool.eq_false_iff.mpr hb
    refine da_xin0 hm hx hb' (br_t rfl ?_)
    simp only [wX_accessCompute_59, nI_1]
    exact nm_e (hn hb')

theorem da_XA {post : SX → Prop} {op x y z : Nat → Int32} {n K m l : Nat} {tr : Nat → da_St} {sd : Nat → Bool} {dq e a c H : Nat} {As : List Nat} {B Hs : Nat} {bu ex oh oc sh sc : Int32} {rg ce ar ps on ls pl ov oa sl : Nat → Int32}
    (F : da_F op x y z n K m sd tr) (hd1 : 1 ≤ dq) (hd4 : dq ≤ 4) (hl6 : l ≤ 6) (hmid : e ≤ a ∨ (e = a + 1 ∧ da_fr op x y z sd (tr a).1)) (heK : e ≤ K) (haK : a ≤ K) (hc : c < 1000000) (V : da_V op x y z sd tr dq e a c H As B Hs bu ex oh oc sh sc rg ce ar ps on ls pl ov oa sl)
    (hmv : ∀ (As' : List Nat) (B' : Nat) (bu' oc' sc' : Int32) (ar' ps' on' ls' pl' ov' oa' sl' : Nat → Int32),
      da_V op x y z sd tr dq e (a + 1) c H As' B' Hs bu' ex oh oc' sh sc' rg ce ar' ps' on' ls' pl' ov' oa' sl' → a < K →
      post ((nI dq), (nI l), (nI n), (nI m), bu', (nI c), ex, oh, oc', sh, sc', op, x, y, z, rg, ce, ar', ps', on', ls', pl', ov', oa', sl'))
    (hst : e ≤ a → (e < a ∨ a = K) → post ((nI dq), (nI l), (nI n), (nI m), bu, (nI c), ex, oh, oc, sh, sc, op, x, y, z, rg, ce, ar, ps, on, ls, pl, ov, oa, sl)) :
    wpX_stepAccess post ((nI dq), (nI l), (nI n), (nI m), bu, (nI c), ex, oh, oc, sh, sc, op, x, y, z, rg, ce, ar, ps, on, ls, pl, ov, oa, sl) := by
  have F' := F
  have V' := V
  obtain ⟨G, ht, hlt, hKn, hI, hC, hm, hsd, hM⟩ := F'
  obtain ⟨v1, v2, v3, v4, ⟨p1, p2, p3⟩, v6, v7, v8⟩ := V'
  have hn24 := G.1
  obtain ⟨i1, i2, i3, i4, i5, i6, i7, i8, i9, i10⟩ := v7
  obtain ⟨j1, j2, j3, j4⟩ := v8
  unfold wpX_stepAccess
  refine nm_r p1 ?_
  by_cases caK : a = K
  · have hpc : (tr a).1 = n := by rw [caK]; exact hKn
    rw [hpc]
    refine br_t (nI_le (Nat.le_refl _) (by omega)) (hst ?_ (Or.inr caK))
    rcases hmid with h | h
    · exact h
    · omega
  · have ha : a < K := by omega
    have hpc := hlt a ha
    have h24 : (tr a).1 < 24 := by omega
    have hok := G.2.1 _ hpc
    have vpc : vp_in (nI (tr a).1) 24 := vp_in_nI h24 (by decide)
    have hlen := G.2.2.1 (tr a).1 (by omega)
    have hlen' := G.2.2.1 ((tr a).1 + 1) (by omega)
    refine br_f (nI_ge hpc (by omega)) ?_
    by_cases cB : B ≤ c
    · refine br_t (by rw [i8]; exact nI_le cB (by omega)) ?_
      have hQ : dq ≤ (da_ls (da_fo op x y z sd tr) (a - e) e).length → e < a := fun h => da_ls_ne (da_fo op x y z sd tr) (by omega)
      rcases da_kind op x y z hok with k | k | k | k | k
      · -- a target
        have k' := k
        obtain ⟨k6, h7, h8, h9, h10, hx, hy, kk⟩ := k'
        by_cases h6 : op (tr a).1 = 6
        · have hea : e ≤ a := by
            rcases hmid with h | ⟨h, hf⟩
            · exact h
            · rcases hf with f | f | ⟨_, f⟩
              · exact absurd f h9
              · exact absurd f h10
              · rw [da_nd_6 op x h6] at f; exact absurd f (by decide)
          refine ⟨vpc, nm_r (da_e7 h24 h6) (br_f (by decide) (br_f (by decide) (br_t rfl ?_)))⟩
          refine da_xlo h24 hm hx hy (by omega) (by omega) (by omega) j1 j2 j4 i1 i2 (fun h => ?_) (fun hq hin hb => ?_) (fun hq hin hb => ?_)
          · refine hst hea (Or.inl ?_)
            rcases h with h | h
            · exact hQ h
            · exact da_ls_ne (da_fc op y z tr) (List.length_pos_of_mem h)
          · exact hmv _ _ _ _ _ _ _ _ _ _ _ _ _ (da_A_6n op x y z F ha hea hd4 h6 hl6 i2 hq cB hin (by rw [hsd]; exact hb) V) ha
          · exact hmv _ _ _ _ _ _ _ _ _ _ _ _ _ (da_A_6s op x y z F ha hea hd4 h6 hl6 i2 hq hin (by rw [hsd]; exact hb) V) ha
        · have hk6 : op (tr a).1 < 6 := by
            rcases kk with h | h | ⟨h, _⟩
            · rw [h]; decide
            · exact absurd h h6
            · exact Int32.lt_of_le_of_lt h (by decide)
          refine ⟨vpc, nm_r (da_e7 h24 rfl) (br_t hk6 ?_)⟩
          have hea : m.testBit (x (tr a).1).toNatClampNeg = true → e ≤ a := by
            intro hb
            rcases hmid with h | ⟨h, hf⟩
            · exact h
            · rcases hf with f | f | ⟨_, f⟩
              · exact absurd f h9
              · exact absurd f h10
              · rw [da_nd_t op x k6 h6, hsd, hb] at f; exact absurd f (by decide)
          refine da_xco h24 hm hok k h6 (by omega) (by omega) i1 i2 (fun hb => ?_) (fun hb hq => ?_) (fun hb hq => ?_)
          · exact hmv _ _ _ _ _ _ _ _ _ _ _ _ _ (da_A_tf op x y z F ha k h6 (by rw [hsd]; exact hb) V) ha
          · exact hst (hea hb) (Or.inl (hQ hq))
          · exact hmv _ _ _ _ _ _ _ _ _ _ _ _ _ (da_A_tn op x y z F ha (hea hb) hd4 k h6 (by rw [hsd]; exact hb) i2 hq cB V) ha
      · -- STORE
        obtain ⟨h7, hx, hy⟩ := k
        have hea : e ≤ a := by
          rcases hmid with h | ⟨h, hf⟩
          · exact h
          · rcases hf with f | f | ⟨f, _⟩
            · rw [h7] at f; exact absurd f (by decide)
            · rw [h7] at f; exact absurd f (by decide)
            · exact absurd h7 f.2.1
        refine ⟨vpc, nm_r (da_e7 h24 h7) (br_f (by decide) (br_f (by decide) (br_f (by decide) (br_t rfl ?_))))⟩
        refine da_xst h24 hy (by omega) (by omega) j1 j2 (fun hq => ?_) (fun hq => ?_)
        · exact hst hea (Or.inl (da_ls_ne (da_fc op y z tr) (by omega)))
        · exact hmv _ _ _ _ _ _ _ _ _ _ _ _ _ (da_A_7 op x y z F ha hea hd4 h7 j2 hq V) ha
      · -- SKIPZ
        obtain ⟨h8, hx, b, hb1, hb8, hy⟩ := k
        have hea : e ≤ a := by
          rcases hmid with h | ⟨h, hf⟩
          · exact h
          · rcases hf with f | f | ⟨f, _⟩
            · rw [h8] at f; exact absurd f (by decide)
            · rw [h8] at f; exact absurd f (by decide)
            · exact absurd h8 f.2.2.1
        refine ⟨vpc, nm_r (da_e7 h24 h8) (br_f (by decide) (br_f (by decide) (br_f (by decide) (br_f (by decide) (br_t rfl ?_)))))⟩
        refine da_xsk h24 hx hy (by omega) (by omega) i1 i2 (fun hq => ?_) (fun hq => ?_)
        · exact hst hea (Or.inl (hQ hq))
        · obtain ⟨r1, r2⟩ := da_A_8 op x y z F ha hea hd4 h8 i2 hq cB V
          have e2 : (tr (a + 1)).1 = if ar (x (tr a).1).toNatClampNeg = 0 then (tr a).1 + 1 + b else (tr a).1 + 1 := by
            have e3 : (tr (a + 1)).1 = _ := congrArg Prod.fst ((ht a).trans (da_st_8 op x y z h8))
            rw [e3, r1, hy, nI_clamp (by omega)]
          rw [← e2]
          exact hmv _ _ _ _ _ _ _ _ _ _ _ _ _ r2 ha
      · -- REPEAT
        obtain ⟨h9, q, hq1, hq6, hx⟩ := k
        have hd : (da_enc op (tr a).1).length < 2 := by
          rw [da_enc_9 op h9, List.length_cons] at hlen'
          omega
        refine ⟨vpc, nm_r (da_e7 h24 h9) (br_f (by decide) (br_f (by decide) (br_f (by decide) (br_f (by decide) (br_f (by decide) (br_t rfl ?_))))))⟩
        exact da_xpr (h := 0) (by decide) h24 hd p2 (hmv _ _ _ _ _ _ _ _ _ _ _ _ _ (da_A_9 op x y z F ha heK h9 hd V) ha)
      · -- END
        cases hs : da_enc op (tr a).1 with
        | nil => exact absurd hs (G.2.2.2.2.1 _ hpc k)
        | cons b st =>
          obtain ⟨p, hp1, hp6, hpL⟩ := (hI a (by omega)).2 b (by rw [hs]; exact List.mem_cons_self)
          rw [hs, List.length_cons] at p2 hlen
          rw [hs] at p3
          obtain ⟨q1, q2, q3⟩ := p3
          refine ⟨vpc, nm_r (da_e7 h24 k) (br_f (by decide) (br_f (by decide) (br_f (by decide) (br_f (by decide) (br_f (by decide) (br_f (by decide) (br_t rfl ?_)))))))⟩
          by_cases cp : 2 ≤ p
          · exact da_xpeb (h := 0) (by decide) h24 (by omega) p2 q1 (q2.trans hpL) cp hp6 (hmv _ _ _ _ _ _ _ _ _ _ _ _ _ (da_A_10b op x y z F ha heK k hs hpL hp6 cp V) ha)
          · exact da_xpep (h := 0) (by decide) h24 (by omega) p2 (q2.trans hpL) (by omega) (hmv _ _ _ _ _ _ _ _ _ _ _ _ _ (da_A_10p op x y z F ha heK k hs hpL (by omega) V) ha)
    · refine br_f (by rw [i8]; exact nI_ge (by omega) (by omega)) ?_
      obtain ⟨l', hl'⟩ := i10 (by omega)
      have hne : e < a := by
        refine da_ls_ne (da_fo op x y z sd tr) ?_
        rw [← i5, hl', List.length_append, List.length_singleton]; omega
      exact hst (by omega) (Or.inl hne)
