/-! One cycle's first half: execute -/
def da_fr (op x y z : Nat → Int32) (sd : Nat → Bool) (i : Nat) : Prop := op i = 9 ∨ op i = 10 ∨ (da_kT op x y z i ∧ da_nd op x sd i = false)
theorem da_ls_ne (f : Nat → List Int32) {e a : Nat} (h : 1 ≤ (da_ls f (a - e) e).length) : e < a := by
  by_cases c : e < a
  · exact c
  · rw [show a - e = 0 by omega] at h
    exact absurd (show 1 ≤ 0 from h) (by decide)
theorem da_ls_00 (f : Nat → List Int32) {e a : Nat} (h : a ≤ e) : da_ls f (a - e) e = [] := by
  rw [show a - e = 0 by omega]; rfl
theorem da_e7 {i : Nat} {op : Nat → Int32} {k : Int32} (hi : i < 24) (h : op i = k) : op (nI i).toNatClampNeg = k := by
  rw [nI_clamp (by omega)]; exact h

theorem da_XE {post : SX → Prop} {op x y z : Nat → Int32} {n K m l : Nat} {tr : Nat → da_St} {sd : Nat → Bool} {dq e a c H : Nat} {As : List Nat} {B Hs : Nat} {bu ex oh oc sh sc : Int32} {rg ce ar ps on ls pl ov oa sl : Nat → Int32}
    (F : da_F op x y z n K m sd tr) (hd1 : 1 ≤ dq) (hd4 : dq ≤ 4) (hea : e ≤ a) (heK : e < K) (haK : a ≤ K) (hc : c < 1000000) (V : da_V op x y z sd tr dq e a c H As B Hs bu ex oh oc sh sc rg ce ar ps on ls pl ov oa sl)
    (hmv : ∀ (H' : Nat) (As' : List Nat) (Hs' : Nat) (ex' oh' oc' sh' sc' : Int32) (rg' ce' ps' on' ls' pl' : Nat → Int32),
      da_V op x y z sd tr dq (e + 1) a c H' As' B Hs' bu ex' oh' oc' sh' sc' rg' ce' ar ps' on' ls' pl' ov oa sl →
      (e < a ∨ (e = a ∧ da_fr op x y z sd (tr a).1)) →
      post ((nI dq), (nI l), (nI n), (nI m), bu, (nI c), ex', oh', oc', sh', sc', op, x, y, z, rg', ce', ar, ps', on', ls', pl', ov, oa, sl))
    (hst : (e = a ∨ ∃ t As', As = t :: As' ∧ c < t) → post ((nI dq), (nI l), (nI n), (nI m), bu, (nI c), ex, oh, oc, sh, sc, op, x, y, z, rg, ce, ar, ps, on, ls, pl, ov, oa, sl)) :
    wpX_stepExecute post ((nI dq), (nI l), (nI n), (nI m), bu, (nI c), ex, oh, oc, sh, sc, op, x, y, z, rg, ce, ar, ps, on, ls, pl, ov, oa, sl) := by
  have F' := F
  have V' := V
  obtain ⟨G, ht, hlt, hKn, hI, hC, hm, hsd, hM⟩ := F'
  obtain ⟨v1, v2, v3, ⟨p1, p2, p3⟩, v5, v6, v7, v8⟩ := V'
  have hpc := hlt e heK
  have hn24 := G.1
  have h24 : (tr e).1 < 24 := by omega
  have hok := G.2.1 _ hpc
  have vpc : vp_in (nI (tr e).1) 24 := vp_in_nI h24 (by decide)
  have hlen := G.2.2.1 (tr e).1 (by omega)
  have hlen' := G.2.2.1 ((tr e).1 + 1) (by omega)
  have hex : ex + 1 = nI (e + 1) := by rw [v1, nI_1]
  unfold wpX_stepExecute
  refine nm_r p1 (br_f (nI_ge hpc (by omega)) ?_)
  rcases da_kind op x y z hok with k | k | k | k | k
  · -- a target
    have k' := k
    obtain ⟨k6, h7, h8, h9, h10, hx, hy, kk⟩ := k'
    have hk7 : op (tr e).1 < 7 := Int32.lt_of_le_of_lt k6 (by decide)
    by_cases hn : da_nd op x sd (tr e).1 = true
    · by_cases c1 : e < a
      · obtain ⟨t, As', s1, s2, s4, s5, s6⟩ := da_E_tn op x y z F heK c1 k hn V
        have htc : t ≤ c + 6 := v7.2.2.2.2.2.2.1 t (by rw [s1]; exact List.mem_cons_self)
        refine da_xryt (q := As'.length) (t := t) (c := c) (H := H) h24 hm hsd hok h7 hn (by omega) s4 v7.1 s2 (by omega) rfl (by omega) (fun hlt => ?_) (fun hle => ?_)
        · exact br_t rfl (hst (Or.inr ⟨t, As', s1, hlt⟩))
        · refine br_f da_n10 (nm_r hex ⟨vpc, nm_r (da_e7 h24 rfl) (br_t hk7 ?_)⟩)
          exact da_xetn h24 hm hsd hok k hn v7.1 s4 (hmv _ _ _ _ _ _ _ _ _ _ _ _ _ _ (s6 hle) (Or.inl c1))
      · have hoc : oc = 0 := by rw [v7.2.1, da_ls_00 _ (by omega)]; rfl
        exact da_xry0 h24 hm hsd hok h7 hn hoc (br_t rfl (hst (Or.inl (by omega))))
    · have hn' := Bool.eq_false_iff.mpr hn
      have h6 : ¬ op (tr e).1 = 6 := fun h => hn (da_nd_6 op x h)
      refine da_xryf h24 hm hsd hok h7 hn' (br_f da_n10 (nm_r hex ⟨vpc, nm_r (da_e7 h24 rfl) (br_t hk7 ?_)⟩))
      refine da_xetf h24 hm hsd hok k h6 hn' (hmv _ _ _ _ _ _ _ _ _ _ _ _ _ _ (da_E_tf op x y z F heK k hn' V) ?_)
      by_cases c1 : e < a
      · exact Or.inl c1
      · have : e = a := by omega
        exact Or.inr ⟨this, by rw [← this]; exact Or.inr (Or.inr ⟨k, hn'⟩)⟩
  · -- STORE
    obtain ⟨h7, hx, hy⟩ := k
    by_cases c1 : e < a
    · obtain ⟨q, s1, s2, s3, s4⟩ := da_E_7 op x y z F heK c1 h7 V
      refine da_xry7 (q := q + 1) h24 h7 (by omega) s2 (fun h => by omega) (fun _ => ?_)
      refine br_f da_n10 (nm_r hex ⟨vpc, nm_r (da_e7 h24 h7) (br_f (by decide) (br_f (by decide) (br_t rfl ?_)))⟩)
      exact da_xes h24 hx (da_cl_in y z (tr e).1 rg) s1 v8.1 s2 (hmv _ _ _ _ _ _ _ _ _ _ _ _ _ _ s4 (Or.inl c1))
    · have hsc : sc = nI 0 := by rw [v8.2.1, da_ls_00 _ (by omega)]; rfl
      exact da_xry7 (q := 0) h24 h7 (by omega) hsc (fun _ => br_t rfl (hst (Or.inl (by omega)))) (fun h => by omega)
  · -- SKIPZ
    obtain ⟨h8, hx, b, hb1, hb8, hy⟩ := k
    have h7 : ¬ op (tr e).1 = 7 := by rw [h8]; decide
    have hn := da_nd_8 op x (sd := sd) h8
    by_cases c1 : e < a
    · obtain ⟨t, As', s1, s2, s3, s4, s5, s6⟩ := da_E_8 op x y z F heK c1 h8 V
      have htc : t ≤ c + 6 := v7.2.2.2.2.2.2.1 t (by rw [s1]; exact List.mem_cons_self)
      refine da_xryt (q := As'.length) (t := t) (c := c) (H := H) h24 hm hsd hok h7 hn (by omega) s4 v7.1 s2 (by omega) rfl (by omega) (fun hlt => ?_) (fun hle => ?_)
      · exact br_t rfl (hst (Or.inr ⟨t, As', s1, hlt⟩))
      · refine br_f da_n10 (nm_r hex ⟨vpc, nm_r (da_e7 h24 h8) (br_f (by decide) (br_f (by decide) (br_f (by decide) (br_t rfl ?_))))⟩)
        refine da_xro v7.1 s4 (nm_r ?_ (hmv _ _ _ _ _ _ _ _ _ _ _ _ _ _ (s6 hle) (Or.inl c1)))
        have e2 : (tr (e + 1)).1 = _ := congrArg Prod.fst ((ht e).trans (da_st_8 op x y z h8))
        rw [e2, s3, v2, hy]
        dsimp only
        by_cases cz : (tr e).2.1 (x (tr e).1).toNatClampNeg = 0
        · rw [if_pos cz, if_pos cz, nI_1, nI_add, nI_clamp (by omega)]
        · rw [if_neg cz, if_neg cz, nI_1, Int32.add_zero]
    · have hoc : oc = 0 := by rw [v7.2.1, da_ls_00 _ (by omega)]; rfl
      exact da_xry0 h24 hm hsd hok h7 hn hoc (br_t rfl (hst (Or.inl (by omega))))
  · -- REPEAT
    obtain ⟨h9, q, hq1, hq6, hx⟩ := k
    have h7 : ¬ op (tr e).1 = 7 := by rw [h9]; decide
    have hn : da_nd op x sd (tr e).1 = false := da_nd_f op x (by rw [h9]; decide) (by rw [h9]; decide)
    have hd : (da_enc op (tr e).1).length < 2 := by
      rw [da_enc_9 op h9, List.length_cons] at hlen'
      omega
    refine da_xryf h24 hm hsd hok h7 hn (br_f da_n10 (nm_r hex ⟨vpc, nm_r (da_e7 h24 h9) (br_f (by decide) (br_f (by decide) (br_f (by decide) (br_f (by decide) (br_t rfl ?_)))))⟩))
    refine da_xpr (h := 1) (by decide) h24 hd p2 (hmv _ _ _ _ _ _ _ _ _ _ _ _ _ _ (da_E_9 op x y z F heK haK h9 hd V) ?_)
    by_cases c1 : e < a
    · exact Or.inl c1
    · have : e = a := by omega
      exact Or.inr ⟨this, by rw [← this]; exact Or.inl h9⟩
  · -- END
    have h7 : ¬ op (tr e).1 = 7 := by rw [k]; decide
    have hn : da_nd op x sd (tr e).1 = false := da_nd_f op x (by rw [k]; decide) (by rw [k]; decide)
    cases hs : da_enc op (tr e).1 with
    | nil => exact absurd hs (G.2.2.2.2.1 _ hpc k)
    | cons b st =>
      obtain ⟨p, hp1, hp6, hpL⟩ := (hI e (by omega)).2 b (by rw [hs]; exact List.mem_cons_self)
      rw [hs, List.length_cons] at p2 hlen
      rw [hs] at p3
      obtain ⟨q1, q2, q3⟩ := p3
      have hfr : e < a ∨ (e = a ∧ da_fr op x y z sd (tr a).1) := by
        by_cases c1 : e < a
        · exact Or.inl c1
        · have : e = a := by omega
          exact Or.inr ⟨this, by rw [← this]; exact Or.inr (Or.inl k)⟩
      refine da_xryf h24 hm hsd hok h7 hn (br_f da_n10 (nm_r hex ⟨vpc, nm_r (da_e7 h24 k) (br_f (by decide) (br_f (by decide) (br_f (by decide) (br_f (by decide) (br_f (by decide) (br_t rfl ?_))))))⟩))
      by_cases cp : 2 ≤ p
      · exact da_xpeb (h := 1) (by decide) h24 (by omega) p2 q1 (q2.trans hpL) cp hp6 (hmv _ _ _ _ _ _ _ _ _ _ _ _ _ _ (da_E_10b op x y z F heK haK k hs hpL hp6 cp V) hfr)
      · exact da_xpep (h := 1) (by decide) h24 (by omega) p2 (q2.trans hpL) (by omega) (hmv _ _ _ _ _ _ _ _ _ _ _ _ _ _ (da_E_10p op x y z F heK haK k hs hpL (by omega) V) hfr)
