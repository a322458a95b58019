/-! X's own methods, each with a general post -/
theorem da_n4 : ¬ (4 : Int32) = 0 := by decide
theorem da_rm4 (a b : Nat) (hb : b < 100) : (nI (a % 4) + nI b) - (nI (a % 4) + nI b) / 4 * 4 = nI ((a + b) % 4) := by
  have := pk_rem (a := a % 4 + b) (d := 4) (by omega) (by decide) (by decide)
  rw [nI_add]
  refine Eq.trans this (congrArg nI ?_)
  omega
theorem da_rm1 (a : Nat) : (nI (a % 4) + 1) - (nI (a % 4) + 1) / 4 * 4 = nI ((a + 1) % 4) := da_rm4 a 1 (by decide)
theorem da_xpr {post : SX → Prop} {qd ll ln rs bu cy ex oh oc sh sc : Int32} {op x y z rg ce ar ps on ls pl ov oa sl : Nat → Int32} {h i d : Nat} (hh : h < 2) (hi : i < 24) (hd : d < 2) (ho : on h = nI d)
    (hp : post (qd, ll, ln, rs, bu, cy, ex, oh, oc, sh, sc, op, x, y, z, rg, ce, ar, (upd ps h (nI (i + 1))), (upd on h (nI (d + 1))), (upd ls (2 * h + d) (nI (i + 1))), (upd pl (2 * h + d) (x i)), ov, oa, sl)) : wpX_passRepeat post (qd, ll, ln, rs, bu, cy, ex, oh, oc, sh, sc, op, x, y, z, rg, ce, ar, ps, on, ls, pl, ov, oa, sl) (nI h) (nI i) := by
  have eh : (nI h).toNatClampNeg = h := nI_clamp (by omega)
  have ei : (nI i).toNatClampNeg = i := nI_clamp (by omega)
  have e2 : (nI (2 * h + d)).toNatClampNeg = 2 * h + d := nI_clamp (by omega)
  have et : nI h * 2 + nI d = nI (2 * h + d) := by
    rw [show (2 : Int32) = nI 2 from rfl, pk_mul, nI_add, Nat.mul_comm]
  have vh : vp_in (nI h) 2 := vp_in_nI hh (by decide)
  have vi : vp_in (nI i) 24 := vp_in_nI hi (by decide)
  have v2 : vp_in (nI (2 * h + d)) 4 := vp_in_nI (by omega) (by decide)
  simp only [wpX_passRepeat, eh, ei, ho, nI_1]
  refine ⟨vh, nm_r et ?_⟩
  simp only [e2]
  exact ⟨v2, nm_e ⟨vi, v2, nm_e ⟨vh, vh, nm_e ⟨vh, nm_e hp⟩⟩⟩⟩
theorem da_xpt {h d : Nat} : nI h * 2 + nI (d + 1) - 1 = nI (2 * h + d) := by
  rw [show (2 : Int32) = nI 2 from rfl, pk_mul, nI_add, show h * 2 + (d + 1) = (2 * h + d) + 1 by omega, nI_pred]
theorem da_xpeb {post : SX → Prop} {qd ll ln rs bu cy ex oh oc sh sc : Int32} {op x y z rg ce ar ps on ls pl ov oa sl : Nat → Int32} {h i d b p : Nat} (hh : h < 2) (hi : i < 24) (hd : d < 2) (ho : on h = nI (d + 1)) (hl : ls (2 * h + d) = nI (b + 1)) (hq : pl (2 * h + d) = nI p) (hp2 : 2 ≤ p) (hp6 : p ≤ 6)
    (hp : post (qd, ll, ln, rs, bu, cy, ex, oh, oc, sh, sc, op, x, y, z, rg, ce, ar, (upd ps h (nI (b + 1))), on, ls, (upd pl (2 * h + d) (nI (p - 1))), ov, oa, sl)) : wpX_passEnd post (qd, ll, ln, rs, bu, cy, ex, oh, oc, sh, sc, op, x, y, z, rg, ce, ar, ps, on, ls, pl, ov, oa, sl) (nI h) (nI i) := by
  have eh : (nI h).toNatClampNeg = h := nI_clamp (by omega)
  have e2 : (nI (2 * h + d)).toNatClampNeg = 2 * h + d := nI_clamp (by omega)
  have vh : vp_in (nI h) 2 := vp_in_nI hh (by decide)
  have v2 : vp_in (nI (2 * h + d)) 4 := vp_in_nI (by omega) (by decide)
  simp only [wpX_passEnd, eh, ho]
  refine ⟨vh, nm_r da_xpt ?_⟩
  simp only [e2, hq, hl, da_dec1 (show 1 ≤ p by omega) hp6]
  refine ⟨v2, v2, nm_e ⟨v2, ?_⟩⟩
  rw [pk_us]
  exact br_f (nI_nle (by omega) (by omega)) ⟨v2, vh, nm_e hp⟩
theorem da_xpep {post : SX → Prop} {qd ll ln rs bu cy ex oh oc sh sc : Int32} {op x y z rg ce ar ps on ls pl ov oa sl : Nat → Int32} {h i d p : Nat} (hh : h < 2) (hi : i < 24) (hd : d < 2) (ho : on h = nI (d + 1)) (hq : pl (2 * h + d) = nI p) (hp1 : p = 1)
    (hp : post (qd, ll, ln, rs, bu, cy, ex, oh, oc, sh, sc, op, x, y, z, rg, ce, ar, (upd ps h (nI (i + 1))), (upd on h (nI d)), ls, (upd pl (2 * h + d) (nI (p - 1))), ov, oa, sl)) : wpX_passEnd post (qd, ll, ln, rs, bu, cy, ex, oh, oc, sh, sc, op, x, y, z, rg, ce, ar, ps, on, ls, pl, ov, oa, sl) (nI h) (nI i) := by
  have eh : (nI h).toNatClampNeg = h := nI_clamp (by omega)
  have e2 : (nI (2 * h + d)).toNatClampNeg = 2 * h + d := nI_clamp (by omega)
  have vh : vp_in (nI h) 2 := vp_in_nI hh (by decide)
  have v2 : vp_in (nI (2 * h + d)) 4 := vp_in_nI (by omega) (by decide)
  simp only [wpX_passEnd, eh, ho, nI_pred, nI_1]
  refine ⟨vh, nm_r da_xpt ?_⟩
  simp only [e2, hq, da_dec1 (show 1 ≤ p by omega) (show p ≤ 6 by omega)]
  refine ⟨v2, v2, nm_e ⟨v2, ?_⟩⟩
  rw [pk_us]
  refine br_t (by rw [hp1]; decide) ⟨vh, vh, nm_e ⟨vh, nm_e hp⟩⟩

theorem da_lss {post : Int32 → Prop} {a b : Int32} (hp : post (if a < b then 1 else 0)) : (b ≤ a → post 0) ∧ (¬ b ≤ a → post 1) := by
  by_cases c : a < b
  · rw [if_pos c] at hp
    exact br_f (Int32.not_le.mpr c) hp
  · rw [if_neg c] at hp
    exact br_t (Int32.not_lt.mp c) hp
theorem da_xsm {post : Int32 → Prop} {a b : Int32} : ∀ k : Nat, k ≤ 4 → post (da_sum (nI k) a b) →
    ((nI k < 0 → ((b ≤ a → post 0) ∧ (¬ b ≤ a → post 1))) ∧ (¬ nI k < 0 → ((3 < nI k → ((b ≤ a → post 0) ∧ (¬ b ≤ a → post 1))) ∧ (¬ 3 < nI k →
      ((nI k = 0 → post (a + b)) ∧ (¬ nI k = 0 → ((nI k = 1 → post (a - b)) ∧ (¬ nI k = 1 → ((nI k = 2 → post (a * b)) ∧ (¬ nI k = 2 → ((nI k = 3 → post (a ^^^ b)) ∧ (¬ nI k = 3 → True)))))))))))) 
  | 0, _, hp => br_f (by decide) (br_f (by decide) (br_t rfl hp))
  | 1, _, hp => br_f (by decide) (br_f (by decide) (br_f (by decide) (br_t rfl hp)))
  | 2, _, hp => br_f (by decide) (br_f (by decide) (br_f (by decide) (br_f (by decide) (br_t rfl hp))))
  | 3, _, hp => br_f (by decide) (br_f (by decide) (br_f (by decide) (br_f (by decide) (br_f (by decide) (br_t rfl hp)))))
  | 4, _, hp => br_f (by decide) (br_t (by decide) (da_lss hp))
  | _ + 5, hk, _ => absurd hk (by omega)
theorem da_ok_4 {op x y z : Nat → Int32} {i : Nat} (h : da_ok op x y z i) (h4 : op i ≤ 4) : ∃ k : Nat, k ≤ 4 ∧ op i = nI k := by
  rcases h with ⟨k, a, b, c, hk, ha, hb, hc, ho, hx, hy, hz⟩ | ⟨k, a, b, hk, hk', ha, hb, ho, hx, hy⟩ | ⟨a, b, ha, hb, hb', ho, hx, hy⟩ | ⟨a, h1, h2, ho, hx⟩ | ho
  · exact ⟨k, hk, ho⟩
  · rw [ho] at h4
    exact absurd ((nI_leI (b := 4) (by omega) (by omega)).mp h4) (by omega)
  · rw [ho] at h4; exact absurd h4 (by decide)
  · rw [ho] at h4; exact absurd h4 (by decide)
  · rw [ho] at h4; exact absurd h4 (by decide)
theorem da_xcr {post : Int32 → Prop} {qd ll ln rs bu cy ex oh oc sh sc : Int32} {op x y z rg ce ar ps on ls pl ov oa sl : Nat → Int32} {i : Nat} (hi : i < 24) (hok : da_ok op x y z i) (k : da_kT op x y z i) (h6 : ¬ op i = 6) (hp : post (da_tv op y z i rg ce)) : wpX_computed__registers post (qd, ll, ln, rs, bu, cy, ex, oh, oc, sh, sc, op, x, y, z, rg, ce, ar, ps, on, ls, pl, ov, oa, sl) (nI i) := by
  have e : (nI i).toNatClampNeg = i := nI_clamp (by omega)
  have v : vp_in (nI i) 24 := vp_in_nI hi (by decide)
  obtain ⟨k6, h7, h8, h9, h10, hx, hy, kk⟩ := k
  have vy := da_inI (m := 8) (by decide) hy
  unfold da_tv at hp
  simp only [wpX_computed__registers, e]
  refine ⟨v, vy, nm_e ⟨v, ?_⟩⟩
  rcases kk with h5 | h | ⟨h4, n5, _, hz⟩
  · rw [if_pos h5] at hp
    exact br_t h5 ⟨v, hp⟩
  · exact absurd h h6
  · have vz := da_inI (m := 8) (by decide) hz
    rw [if_neg n5, if_neg h6] at hp
    refine br_f n5 ⟨v, vz, nm_e ⟨v, nm_e ?_⟩⟩
    obtain ⟨q, hq, eq⟩ := da_ok_4 hok h4
    rw [eq] at hp ⊢
    exact da_xsm q hq hp
theorem da_xca {post : Int32 → Prop} {qd ll ln rs bu cy ex oh oc sh sc : Int32} {op x y z rg ce ar ps on ls pl ov oa sl : Nat → Int32} {i : Nat} (hi : i < 24) (hok : da_ok op x y z i) (k : da_kT op x y z i) (h6 : ¬ op i = 6) (hp : post (da_tv op y z i ar ce)) : wpX_computed__accessRegisters post (qd, ll, ln, rs, bu, cy, ex, oh, oc, sh, sc, op, x, y, z, rg, ce, ar, ps, on, ls, pl, ov, oa, sl) (nI i) := by
  have e : (nI i).toNatClampNeg = i := nI_clamp (by omega)
  have v : vp_in (nI i) 24 := vp_in_nI hi (by decide)
  obtain ⟨k6, h7, h8, h9, h10, hx, hy, kk⟩ := k
  have vy := da_inI (m := 8) (by decide) hy
  unfold da_tv at hp
  simp only [wpX_computed__accessRegisters, e]
  refine ⟨v, vy, nm_e ⟨v, ?_⟩⟩
  rcases kk with h5 | h | ⟨h4, n5, _, hz⟩
  · rw [if_pos h5] at hp
    exact br_t h5 ⟨v, hp⟩
  · exact absurd h h6
  · have vz := da_inI (m := 8) (by decide) hz
    rw [if_neg n5, if_neg h6] at hp
    refine br_f n5 ⟨v, vz, nm_e ⟨v, nm_e ?_⟩⟩
    obtain ⟨q, hq, eq⟩ := da_ok_4 hok h4
    rw [eq] at hp ⊢
    exact da_xsm q hq hp

theorem da_xnd {post : Int32 → Prop} {qd ll ln bu cy ex oh oc sh sc : Int32} {op x y z rg ce ar ps on ls pl ov oa sl : Nat → Int32} {sd : Nat → Bool} {m i : Nat} (hi : i < 24) (hm : m < 256) (hsd : ∀ r, sd r = m.testBit r) (hok : da_ok op x y z i)
    (hp : post (da_bv (da_nd op x sd i))) : wpX_needsOperand post (qd, ll, ln, (nI m), bu, cy, ex, oh, oc, sh, sc, op, x, y, z, rg, ce, ar, ps, on, ls, pl, ov, oa, sl) (nI i) := by
  have e : (nI i).toNatClampNeg = i := nI_clamp (by omega)
  have v : vp_in (nI i) 24 := vp_in_nI hi (by decide)
  obtain ⟨r1, _, _⟩ := da_ok_r hok
  simp only [wpX_needsOperand, e]
  by_cases h6 : op i = 6
  · exact ⟨v, br_t h6 (da_bv1 (da_nd_6 op x h6) hp)⟩
  · by_cases h8 : op i = 8
    · exact ⟨v, br_f h6 ⟨v, br_t h8 (da_bv1 (da_nd_8 op x h8) hp)⟩⟩
    · refine ⟨v, br_f h6 ⟨v, br_f h8 ?_⟩⟩
      by_cases hle : op i ≤ 6
      · rw [da_nd_t op x hle h6, hsd] at hp
        refine da_xht1 hi hle (br_f da_n10 ⟨v, ?_⟩)
        have hx := r1 (Int32.le_trans hle (by decide))
        by_cases hb : m.testBit (x i).toNatClampNeg = true
        · exact da_xin1 hm hx hb (br_f da_n10 (da_bv1 hb hp))
        · exact da_xin0 hm hx (Bool.eq_false_iff.mpr hb) (br_t rfl (da_bv0 (Bool.eq_false_iff.mpr hb) hp))
      · exact da_xht0 hi hle (br_t rfl (da_bv0 (da_nd_f op x hle h8) hp))

theorem da_xry7 {post : Int32 → Prop} {qd ll ln rs bu cy ex oh oc sh sc : Int32} {op x y z rg ce ar ps on ls pl ov oa sl : Nat → Int32} {i q : Nat} (hi : i < 24) (h7 : op i = 7) (hq : q < 100) (hs : sc = nI q) (hp0 : q = 0 → post 0) (hp1 : 1 ≤ q → post 1) : wpX_isExecuteReady post (qd, ll, ln, rs, bu, cy, ex, oh, oc, sh, sc, op, x, y, z, rg, ce, ar, ps, on, ls, pl, ov, oa, sl) (nI i) := by
  have e : (nI i).toNatClampNeg = i := nI_clamp (by omega)
  have v : vp_in (nI i) 24 := vp_in_nI hi (by decide)
  simp only [wpX_isExecuteReady, e, hs]
  refine ⟨v, br_t h7 ?_⟩
  by_cases c : q = 0
  · exact br_t (by rw [c]; decide) (hp0 c)
  · exact br_f (nI_nle (by omega) (by omega)) (hp1 (by omega))
theorem da_xryf {post : Int32 → Prop} {qd ll ln bu cy ex oh oc sh sc : Int32} {op x y z rg ce ar ps on ls pl ov oa sl : Nat → Int32} {sd : Nat → Bool} {m i : Nat} (hi : i < 24) (hm : m < 256) (hsd : ∀ r, sd r = m.testBit r) (hok : da_ok op x y z i) (h7 : ¬ op i = 7) (hn : da_nd op x sd i = false)
    (hp : post 1) : wpX_isExecuteReady post (qd, ll, ln, (nI m), bu, cy, ex, oh, oc, sh, sc, op, x, y, z, rg, ce, ar, ps, on, ls, pl, ov, oa, sl) (nI i) := by
  have e : (nI i).toNatClampNeg = i := nI_clamp (by omega)
  have v : vp_in (nI i) 24 := vp_in_nI hi (by decide)
  simp only [wpX_isExecuteReady, e]
  refine ⟨v, br_f h7 (da_xnd hi hm hsd hok ?_)⟩
  rw [hn]
  exact br_t rfl hp
theorem da_xry0 {post : Int32 → Prop} {qd ll ln bu cy ex oh oc sh sc : Int32} {op x y z rg ce ar ps on ls pl ov oa sl : Nat → Int32} {sd : Nat → Bool} {m i : Nat} (hi : i < 24) (hm : m < 256) (hsd : ∀ r, sd r = m.testBit r) (hok : da_ok op x y z i) (h7 : ¬ op i = 7) (hn : da_nd op x sd i = true)
    (hc : oc = 0) (hp : post 0) : wpX_isExecuteReady post (qd, ll, ln, (nI m), bu, cy, ex, oh, oc, sh, sc, op, x, y, z, rg, ce, ar, ps, on, ls, pl, ov, oa, sl) (nI i) := by
  have e : (nI i).toNatClampNeg = i := nI_clamp (by omega)
  have v : vp_in (nI i) 24 := vp_in_nI hi (by decide)
  simp only [wpX_isExecuteReady, e]
  refine ⟨v, br_f h7 (da_xnd hi hm hsd hok ?_)⟩
  rw [hn]
  exact br_f da_n10 (br_t (by rw [hc]; decide) hp)
theorem da_xryt {post : Int32 → Prop} {qd ll ln bu cy ex oh oc sh sc : Int32} {op x y z rg ce ar ps on ls pl ov oa sl : Nat → Int32} {sd : Nat → Bool} {m i q H t c : Nat} (hi : i < 24) (hm : m < 256) (hsd : ∀ r, sd r = m.testBit r) (hok : da_ok op x y z i) (h7 : ¬ op i = 7) (hn : da_nd op x sd i = true)
    (hq : q < 100) (hc : oc = nI (q + 1)) (ho : oh = nI (H % 4)) (ht : oa (H % 4) = nI t) (ht' : t < 2000000) (hcy : cy = nI c) (hc' : c < 2000000)
    (hp0 : c < t → post 0) (hp1 : t ≤ c → post 1) : wpX_isExecuteReady post (qd, ll, ln, (nI m), bu, cy, ex, oh, oc, sh, sc, op, x, y, z, rg, ce, ar, ps, on, ls, pl, ov, oa, sl) (nI i) := by
  have e : (nI i).toNatClampNeg = i := nI_clamp (by omega)
  have eH : (nI (H % 4)).toNatClampNeg = H % 4 := nI_clamp (by omega)
  have v : vp_in (nI i) 24 := vp_in_nI hi (by decide)
  simp only [wpX_isExecuteReady, e]
  refine ⟨v, br_f h7 (da_xnd hi hm hsd hok ?_)⟩
  rw [hn]
  refine br_f da_n10 (br_f (by rw [hc]; exact nI_nle (by omega) (by omega)) ⟨by rw [ho]; exact vp_in_nI (by omega) (by decide), ?_⟩)
  rw [ho, eH, ht, hcy]
  by_cases c1 : c < t
  · exact br_t (nI_lt c1 (by omega)) (hp0 c1)
  · exact br_f (nI_nlt (by omega) (by omega)) (hp1 (by omega))

theorem da_xes {post : SX → Prop} {qd ll ln rs bu cy ex oh oc sh sc : Int32} {op x y z rg ce ar ps on ls pl ov oa sl : Nat → Int32} {i k Hs : Nat} {cl : Int32} (hi : i < 24) (hx : ∃ a : Nat, a < 8 ∧ x i = nI a) (hcl : ∃ j : Nat, j < 16 ∧ cl = nI j) (hs : sl (Hs % 4) = cl) (hh : sh = nI (Hs % 4)) (hc : sc = nI (k + 1))
    (hp : post (qd, ll, ln, rs, bu, cy, ex, oh, oc, (nI ((Hs + 1) % 4)), (nI k), op, x, y, z, rg, (upd ce cl.toNatClampNeg (rg (x i).toNatClampNeg)), ar, (upd ps 1 (nI (i + 1))), on, ls, pl, ov, oa, sl)) : wpX_executeStore post (qd, ll, ln, rs, bu, cy, ex, oh, oc, sh, sc, op, x, y, z, rg, ce, ar, ps, on, ls, pl, ov, oa, sl) (nI i) := by
  have e : (nI i).toNatClampNeg = i := nI_clamp (by omega)
  have eH : (nI (Hs % 4)).toNatClampNeg = Hs % 4 := nI_clamp (by omega)
  have v : vp_in (nI i) 24 := vp_in_nI hi (by decide)
  simp only [wpX_executeStore, e, hh, hc, eH, hs, nI_pred, nI_1 i]
  exact ⟨vp_in_nI (by omega) (by decide), v, da_inI (m := 8) (by decide) hx, da_inI (m := 16) (by decide) hcl, nm_e ⟨da_n4, nm_r (da_rm1 Hs) (nm_e (nm_e hp))⟩⟩
theorem da_xro {post : Int32 → SX → Prop} {qd ll ln rs bu cy ex oh oc sh sc : Int32} {op x y z rg ce ar ps on ls pl ov oa sl : Nat → Int32} {k H : Nat} (hh : oh = nI (H % 4)) (hc : oc = nI (k + 1))
    (hp : post (ov (H % 4)) (qd, ll, ln, rs, bu, cy, ex, (nI ((H + 1) % 4)), (nI k), sh, sc, op, x, y, z, rg, ce, ar, ps, on, ls, pl, ov, oa, sl)) : wpX_receivedOperand post (qd, ll, ln, rs, bu, cy, ex, oh, oc, sh, sc, op, x, y, z, rg, ce, ar, ps, on, ls, pl, ov, oa, sl) := by
  have eH : (nI (H % 4)).toNatClampNeg = H % 4 := nI_clamp (by omega)
  simp only [wpX_receivedOperand, hh, hc, eH, nI_pred]
  exact ⟨vp_in_nI (by omega) (by decide), nm_e ⟨da_n4, nm_r (da_rm1 H) (nm_e hp)⟩⟩
theorem da_xetf {post : SX → Prop} {qd ll ln bu cy ex oh oc sh sc : Int32} {op x y z rg ce ar ps on ls pl ov oa sl : Nat → Int32} {sd : Nat → Bool} {m i : Nat} (hi : i < 24) (hm : m < 256) (hsd : ∀ r, sd r = m.testBit r) (hok : da_ok op x y z i) (k : da_kT op x y z i) (h6 : ¬ op i = 6) (hn : da_nd op x sd i = false)
    (hp : post (qd, ll, ln, (nI m), bu, cy, ex, oh, oc, sh, sc, op, x, y, z, (upd rg (x i).toNatClampNeg (da_tv op y z i rg ce)), ce, ar, (upd ps 1 (nI (i + 1))), on, ls, pl, ov, oa, sl)) : wpX_executeTarget post (qd, ll, ln, (nI m), bu, cy, ex, oh, oc, sh, sc, op, x, y, z, rg, ce, ar, ps, on, ls, pl, ov, oa, sl) (nI i) := by
  have e : (nI i).toNatClampNeg = i := nI_clamp (by omega)
  have v : vp_in (nI i) 24 := vp_in_nI hi (by decide)
  simp only [wpX_executeTarget, e]
  refine ⟨v, da_xnd hi hm hsd hok ?_⟩
  rw [hn]
  refine br_t rfl (da_xcr hi hok k h6 ?_)
  simp only [wX_executeTarget_34, nI_1]
  exact ⟨da_inI (m := 8) (by decide) k.2.2.2.2.2.1, nm_e (nm_e hp)⟩
theorem da_xetn {post : SX → Prop} {qd ll ln bu cy ex oh oc sh sc : Int32} {op x y z rg ce ar ps on ls pl ov oa sl : Nat → Int32} {sd : Nat → Bool} {m i q H : Nat} (hi : i < 24) (hm : m < 256) (hsd : ∀ r, sd r = m.testBit r) (hok : da_ok op x y z i) (k : da_kT op x y z i) (hn : da_nd op x sd i = true)
    (hh : oh = nI (H % 4)) (hc : oc = nI (q + 1))
    (hp : post (qd, ll, ln, (nI m), bu, cy, ex, (nI ((H + 1) % 4)), (nI q), sh, sc, op, x, y, z, (upd rg (x i).toNatClampNeg (ov (H % 4))), ce, ar, (upd ps 1 (nI (i + 1))), on, ls, pl, ov, oa, sl)) : wpX_executeTarget post (qd, ll, ln, (nI m), bu, cy, ex, oh, oc, sh, sc, op, x, y, z, rg, ce, ar, ps, on, ls, pl, ov, oa, sl) (nI i) := by
  have e : (nI i).toNatClampNeg = i := nI_clamp (by omega)
  have v : vp_in (nI i) 24 := vp_in_nI hi (by decide)
  simp only [wpX_executeTarget, e]
  refine ⟨v, da_xnd hi hm hsd hok ?_⟩
  rw [hn]
  refine br_f da_n10 (da_xro hh hc ?_)
  simp only [wX_executeTarget_34, nI_1]
  exact ⟨da_inI (m := 8) (by decide) k.2.2.2.2.2.1, nm_e (nm_e hp)⟩

theorem da_xso2 {post : SX → Prop} {qd ll ln rs bu cy ex oh oc sh sc : Int32} {op x y z rg ce ar ps on ls pl ov oa sl : Nat → Int32} {H q : Nat} {v t : Int32} (hq : q < 100) (hh : oh = nI (H % 4)) (hc : oc = nI q)
    (hp : post (qd, ll, ln, rs, bu, cy, ex, oh, (nI (q + 1)), sh, sc, op, x, y, z, rg, ce, ar, ps, on, ls, pl, (upd ov ((H + q) % 4) v), (upd oa ((H + q) % 4) t), sl)) : wpX_sendOperand post (qd, ll, ln, rs, bu, cy, ex, oh, oc, sh, sc, op, x, y, z, rg, ce, ar, ps, on, ls, pl, ov, oa, sl) v t := by
  have eH : (nI ((H + q) % 4)).toNatClampNeg = (H + q) % 4 := nI_clamp (by omega)
  have v4 : vp_in (nI ((H + q) % 4)) 4 := vp_in_nI (by omega) (by decide)
  subst hh hc
  simp only [wpX_sendOperand, nI_1]
  refine ⟨da_n4, nm_r (da_rm4 H q hq) ?_⟩
  simp only [eH]
  exact ⟨v4, nm_e ⟨v4, nm_e (nm_e hp)⟩⟩
theorem da_xac {post : Int32 → Prop} {qd ll ln rs bu cy ex oh oc sh sc : Int32} {op x y z rg ce ar ps on ls pl ov oa sl : Nat → Int32} {i : Nat} (hi : i < 24) (hy : ∃ b : Nat, b < 8 ∧ y i = nI b) (hp : post (da_cl y z i ar)) : wpX_accessedCell post (qd, ll, ln, rs, bu, cy, ex, oh, oc, sh, sc, op, x, y, z, rg, ce, ar, ps, on, ls, pl, ov, oa, sl) (nI i) := by
  have e : (nI i).toNatClampNeg = i := nI_clamp (by omega)
  have v : vp_in (nI i) 24 := vp_in_nI hi (by decide)
  simp only [wpX_accessedCell, e]
  exact ⟨v, da_inI (m := 8) (by decide) hy, v, hp⟩
theorem da_xsp2 {post : Int32 → Prop} {qd ll ln rs bu cy ex oh oc sh sc : Int32} {op x y z rg ce ar ps on ls pl ov oa sl : Nat → Int32} {Hs N : Nat} {cl : Int32} (hN : N < 100) (hh : sh = nI (Hs % 4)) (hc : sc = nI N) : ∀ (q : List Int32) (i : Nat), i + q.length = N → da_AR sl (Hs + i) q →
    (cl ∈ q → post 1) → (¬ cl ∈ q → post 0) → wX_isStorePending_2 post cl qd ll ln rs bu cy ex oh oc sh sc op x y z rg ce ar ps on ls pl ov oa sl (q.length + 1) (nI i) := by
  subst hh hc
  intro q
  induction q with
  | nil =>
    intro i h1 h2 h3 h4
    rw [List.length_nil] at h1
    exact br_t (nI_le (by omega) (by omega)) (h4 (fun h => nomatch h))
  | cons v q ih =>
    intro i h1 h2 h3 h4
    rw [List.length_cons] at h1
    obtain ⟨a1, a2⟩ := h2
    have eH : (nI ((Hs + i) % 4)).toNatClampNeg = (Hs + i) % 4 := nI_clamp (by omega)
    refine br_f (nI_ge (by omega) (by omega)) ⟨da_n4, ?_⟩
    rw [da_rm4 Hs i (by omega), eH, a1]
    refine ⟨vp_in_nI (by omega) (by decide), ?_⟩
    by_cases c : v = cl
    · exact br_t c (h3 (by rw [c]; exact List.mem_cons_self))
    · refine br_f c (nm_r (nI_1 i) (ih (i + 1) (by omega) a2 (fun h => h3 (List.mem_cons_of_mem _ h)) (fun h => h4 (fun h' => ?_))))
      rcases List.mem_cons.mp h' with h'' | h''
      · exact c h''.symm
      · exact h h''
theorem da_xsp {post : Int32 → Prop} {qd ll ln rs bu cy ex oh oc sh sc : Int32} {op x y z rg ce ar ps on ls pl ov oa sl : Nat → Int32} {Hs : Nat} {cl : Int32} {q : List Int32} (hN : q.length < 100) (hh : sh = nI (Hs % 4)) (hc : sc = nI q.length) (hA : da_AR sl Hs q) (h1 : cl ∈ q → post 1) (h0 : ¬ cl ∈ q → post 0) :
    wpX_isStorePending post (qd, ll, ln, rs, bu, cy, ex, oh, oc, sh, sc, op, x, y, z, rg, ce, ar, ps, on, ls, pl, ov, oa, sl) cl :=
  ⟨q.length + 1, da_xsp2 hN hh hc q 0 (by omega) hA h1 h0⟩
