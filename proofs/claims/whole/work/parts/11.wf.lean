/-! Well-formedness, both walks -/
def da_bv (b : Bool) : Int32 := if b = true then 1 else 0
theorem da_bv0 {post : Int32 → Prop} {b : Bool} (h : b = false) (hp : post (da_bv b)) : post 0 := by rw [h] at hp; exact hp
theorem da_bv1 {post : Int32 → Prop} {b : Bool} (h : b = true) (hp : post (da_bv b)) : post 1 := by rw [h] at hp; exact hp
theorem da_m1 : (0 : Int32) + (-1) = -1 := by decide
theorem da_a0 (v : Int32) : v + 0 = v := Int32.add_zero v
theorem da_cm1 {c : Nat} (h : ¬ c = 0) : nI c + (-1) = nI (c - 1) := by
  obtain ⟨q, rfl⟩ : ∃ q, c = q + 1 := ⟨c - 1, by omega⟩
  rw [pk_m1]; rfl
theorem da_xlc {post : Int32 → Prop} {qd ll ln rs bu cy ex oh oc sh sc : Int32} {op x y z rg ce ar ps on ls pl ov oa sl : Nat → Int32} {i : Nat} (hi : i < 24) (h9 : op i = 9 → post 1) (h10 : op i = 10 → post (-1)) (ho : ¬ op i = 9 → ¬ op i = 10 → post 0) : wpX_loopChange post (qd, ll, ln, rs, bu, cy, ex, oh, oc, sh, sc, op, x, y, z, rg, ce, ar, ps, on, ls, pl, ov, oa, sl) (nI i) := by
  have e : (nI i).toNatClampNeg = i := nI_clamp (by omega)
  have v : vp_in (nI i) 24 := vp_in_nI hi (by decide)
  simp only [wpX_loopChange, e]
  exact ⟨v, br_c h9 (fun n9 => ⟨v, br_c h10 (fun n10 => ho n9 n10)⟩)⟩
theorem da_bal_9 {op : Nat → Int32} {most m i c : Nat} (h : op i = 9) (hc : c + 1 ≤ most) : da_bal op most (m + 1) i c = da_bal op most m (i + 1) (c + 1) := by
  rw [da_bal, if_pos h, if_pos hc]
theorem da_bal_9f {op : Nat → Int32} {most m i c : Nat} (h : op i = 9) (hc : ¬ c + 1 ≤ most) : da_bal op most (m + 1) i c = false := by
  rw [da_bal, if_pos h, if_neg hc]
theorem da_bal_10 {op : Nat → Int32} {most m i c : Nat} (h : op i = 10) (hc : ¬ c = 0) : da_bal op most (m + 1) i c = da_bal op most m (i + 1) (c - 1) := by
  rw [da_bal, if_neg (da_n109 h), if_pos h, if_neg hc]
theorem da_bal_10f {op : Nat → Int32} {most m i c : Nat} (h : op i = 10) (hc : c = 0) : da_bal op most (m + 1) i c = false := by
  rw [da_bal, if_neg (da_n109 h), if_pos h, if_pos hc]
theorem da_bal_o {op : Nat → Int32} {most m i c : Nat} (h9 : ¬ op i = 9) (h10 : ¬ op i = 10) : da_bal op most (m + 1) i c = da_bal op most m (i + 1) c := by
  rw [da_bal, if_neg h9, if_neg h10]
theorem da_bal_0t {op : Nat → Int32} {most i c : Nat} (hc : c = 0) : da_bal op most 0 i c = true := by rw [da_bal, hc]; rfl
theorem da_bal_0f {op : Nat → Int32} {most i c : Nat} (hc : ¬ c = 0) : da_bal op most 0 i c = false := by
  rw [da_bal]
  cases c with
  | zero => exact absurd rfl hc
  | succ c => rfl
theorem da_n0m1 : ¬ (0 : Int32) ≤ -1 := by decide

theorem da_xcs {post : Int32 → Prop} {qd ll ln rs bu cy ex oh oc sh sc : Int32} {op x y z rg ce ar ps on ls pl ov oa sl : Nat → Int32} {la : Nat} (hla : la < 24) : ∀ m i c : Nat, i + m = la + 1 → c + m ≤ 24 → post (da_bv (da_bal op 24 m i c)) →
    wX_canSkip_26 post (nI la) qd ll ln rs bu cy ex oh oc sh sc op x y z rg ce ar ps on ls pl ov oa sl (m + 1) (nI c) (nI i) := by
  intro m
  induction m with
  | zero =>
    intro i c h1 h2 hp
    refine br_t (nI_lt (by omega) (by omega)) ?_
    by_cases hc : c = 0
    · have hp1 := da_bv1 (da_bal_0t hc) hp
      rw [hc]; exact br_t rfl hp1
    · have hp1 := da_bv0 (da_bal_0f hc) hp
      exact br_f (nI_ne0 (by omega) (by omega)) hp1
  | succ m ih =>
    intro i c h1 h2 hp
    refine br_f (nI_nlt (by omega) (by omega)) (da_xlc (by omega) (fun h9 => ?_) (fun h10 => ?_) (fun h9 h10 => ?_))
    · rw [da_bal_9 h9 (by omega)] at hp
      exact nm_r (nI_1 c) (br_t (nI_pos' (by omega)) (nm_r (nI_1 i) (ih (i + 1) (c + 1) (by omega) (by omega) hp)))
    · by_cases hc : c = 0
      · have hp1 := da_bv0 (da_bal_10f h10 hc) hp
        rw [hc]
        exact nm_r da_m1 (br_f da_n0m1 hp1)
      · rw [da_bal_10 h10 hc] at hp
        exact nm_r (da_cm1 hc) (br_t (nI_pos' (by omega)) (nm_r (nI_1 i) (ih (i + 1) (c - 1) (by omega) (by omega) hp)))
    · rw [da_bal_o h9 h10] at hp
      exact nm_r (da_a0 _) (br_t (nI_pos' (by omega)) (nm_r (nI_1 i) (ih (i + 1) c (by omega) (by omega) hp)))
theorem da_xcan {post : Int32 → Prop} {qd ll rs bu cy ex oh oc sh sc : Int32} {op x y z rg ce ar ps on ls pl ov oa sl : Nat → Int32} {n i b : Nat} (hn : n ≤ 24) (hi : i < n) (h8 : op i = 8) (hb : b ≤ 8) (hy : y i = nI b)
    (hp : post (da_bv (da_sok op y n i))) : wpX_canSkip post (qd, ll, (nI n), rs, bu, cy, ex, oh, oc, sh, sc, op, x, y, z, rg, ce, ar, ps, on, ls, pl, ov, oa, sl) (nI i) := by
  have e : (nI i).toNatClampNeg = i := nI_clamp (by omega)
  have v : vp_in (nI i) 24 := vp_in_nI (by omega) (by decide)
  unfold da_sok at hp
  rw [if_pos h8, hy, nI_clamp (by omega)] at hp
  simp only [wpX_canSkip, e]
  rw [hy]
  refine ⟨v, nm_r (nI_add i b) ?_⟩
  by_cases c : i + b < n
  · rw [if_pos c] at hp
    exact br_t (nI_lt c (by omega)) (nm_r (nI_1 i) ⟨b + 1, da_xcs (by omega) b (i + 1) 0 (by omega) (by omega) hp⟩)
  · rw [if_neg c] at hp
    exact br_f (nI_nlt (by omega) (by omega)) hp
theorem da_ok_8 {op x y z : Nat → Int32} {i : Nat} (h : da_ok op x y z i) (h8 : op i = 8) : ∃ b : Nat, b ≤ 8 ∧ y i = nI b := by
  rcases da_kind op x y z h with k | k | k | k | k
  · exact absurd h8 k.2.2.1
  · rw [h8] at k; exact absurd k.1 (by decide)
  · obtain ⟨_, _, b, _, hb, hy⟩ := k
    exact ⟨b, hb, hy⟩
  · rw [h8] at k; exact absurd k.1 (by decide)
  · rw [h8] at k; exact absurd k (by decide)
theorem da_sok_t {op y : Nat → Int32} {n i : Nat} (h : ¬ op i = 8) : da_sok op y n i = true := by unfold da_sok; rw [if_neg h]

theorem da_xw4 {post : Int32 → Prop} {qd ll rs bu cy ex oh oc sh sc : Int32} {op x y z rg ce ar ps on ls pl ov oa sl : Nat → Int32} {n : Nat} (hn : n ≤ 24) (hok : ∀ i, i < n → da_ok op x y z i) : ∀ m i c : Nat, i + m = n → c ≤ 2 →
    post (da_bv (da_bal op 2 m i c && da_asok op y n m i)) → wX_isWellFormed_4 post qd ll (nI n) rs bu cy ex oh oc sh sc op x y z rg ce ar ps on ls pl ov oa sl (m + 1) (nI c) (nI i) := by
  intro m
  induction m with
  | zero =>
    intro i c h1 h2 hp
    refine br_t (nI_le (by omega) (by omega)) ?_
    by_cases hc : c = 0
    · have hp1 := da_bv1 (by rw [da_bal_0t hc]; rfl) hp
      rw [hc]; exact br_t rfl hp1
    · have hp1 := da_bv0 (by rw [da_bal_0f hc]; rfl) hp
      exact br_f (nI_ne0 (by omega) (by omega)) hp1
  | succ m ih =>
    intro i c h1 h2 hp
    have e : (nI i).toNatClampNeg = i := nI_clamp (by omega)
    have v : vp_in (nI i) 24 := vp_in_nI (by omega) (by decide)
    refine br_f (nI_ge (by omega) (by omega)) (da_xlc (by omega) (fun h9 => ?_) (fun h10 => ?_) (fun h9 h10 => ?_))
    · have n8 : ¬ op i = 8 := by rw [h9]; decide
      by_cases hc : c + 1 ≤ 2
      · rw [da_bal_9 h9 hc, da_asok, da_sok_t n8, Bool.true_and] at hp
        refine nm_r (nI_1 c) (br_f (nI_pos (by omega)) (br_t (nI_le (b := 2) hc (by decide)) ⟨v, ?_⟩))
        rw [e]
        exact br_f n8 (nm_r (nI_1 i) (ih (i + 1) (c + 1) (by omega) hc hp))
      · have hp1 := da_bv0 (by rw [da_bal_9f h9 hc]; rfl) hp
        exact nm_r (nI_1 c) (br_f (nI_pos (by omega)) (br_f (nI_ge (a := 2) (by omega) (by omega)) hp1))
    · have n8 : ¬ op i = 8 := by rw [h10]; decide
      by_cases hc : c = 0
      · have hp1 := da_bv0 (by rw [da_bal_10f h10 hc]; rfl) hp
        rw [hc]
        exact nm_r da_m1 (br_t (by decide) hp1)
      · rw [da_bal_10 h10 hc, da_asok, da_sok_t n8, Bool.true_and] at hp
        refine nm_r (da_cm1 hc) (br_f (nI_pos (by omega)) (br_t (nI_le (b := 2) (by omega) (by decide)) ⟨v, ?_⟩))
        rw [e]
        exact br_f n8 (nm_r (nI_1 i) (ih (i + 1) (c - 1) (by omega) (by omega) hp))
    · rw [da_bal_o h9 h10, da_asok] at hp
      refine nm_r (da_a0 _) (br_f (nI_pos (by omega)) (br_t (nI_le (b := 2) (by omega) (by decide)) ⟨v, ?_⟩))
      rw [e]
      by_cases h8 : op i = 8
      · obtain ⟨b, hb, hy⟩ := da_ok_8 (hok i (by omega)) h8
        refine br_t h8 (da_xcan hn (by omega) h8 hb hy ?_)
        by_cases hs : da_sok op y n i = true
        · rw [hs, Bool.true_and] at hp
          rw [hs]
          exact br_f da_n10 (nm_r (nI_1 i) (ih (i + 1) c (by omega) h2 hp))
        · have hs' := Bool.eq_false_iff.mpr hs
          rw [hs', Bool.false_and, Bool.and_false] at hp
          rw [hs']
          exact br_t rfl hp
      · rw [da_sok_t h8, Bool.true_and] at hp
        exact br_f h8 (nm_r (nI_1 i) (ih (i + 1) c (by omega) h2 hp))
theorem da_xwf {post : Int32 → Prop} {qd ll rs bu cy ex oh oc sh sc : Int32} {op x y z rg ce ar ps on ls pl ov oa sl : Nat → Int32} {n : Nat} (hn : n ≤ 24) (hok : ∀ i, i < n → da_ok op x y z i) (hp : post (da_bv (da_wf op y n))) : wpX_isWellFormed post (qd, ll, (nI n), rs, bu, cy, ex, oh, oc, sh, sc, op, x, y, z, rg, ce, ar, ps, on, ls, pl, ov, oa, sl) :=
  ⟨n + 1, da_xw4 hn hok n 0 0 (by omega) (by omega) hp⟩

theorem da_yb42 {post : Int32 → Prop} {J : Int32 → Int32 → Prop} {yn : Int32} {op x y z rg ce lf : Nat → Int32} {t : Int32} {most c i : Nat} (hm : most < 100) (hc : c ≤ most) (hp : J (nI c) (nI (i + 1))) :
    wY_balanced_42 post J t (nI most) (nI c) (nI i) yn op x y z rg ce lf :=
  br_f (nI_pos (by omega)) (br_t (nI_le hc (by omega)) (nm_r (nI_1 i) hp))
theorem da_ybal {post : Int32 → Prop} {yn : Int32} {op x y z rg ce lf : Nat → Int32} {t most : Nat} (ht : t ≤ 24) (hm : most < 100) : ∀ m i c : Nat, i + m = t → c ≤ most → post (da_bv (da_bal op most m i c)) →
    wY_balanced_6 post (nI t) (nI most) yn op x y z rg ce lf (m + 1) (nI c) (nI i) := by
  intro m
  induction m with
  | zero =>
    intro i c h1 h2 hp
    refine br_t (nI_le (by omega) (by omega)) ?_
    by_cases hc : c = 0
    · have hp1 := da_bv1 (da_bal_0t hc) hp
      rw [hc]; exact br_t rfl hp1
    · have hp1 := da_bv0 (da_bal_0f hc) hp
      exact br_f (nI_ne0 (by omega) (by omega)) hp1
  | succ m ih =>
    intro i c h1 h2 hp
    have e : (nI i).toNatClampNeg = i := nI_clamp (by omega)
    have v : vp_in (nI i) 24 := vp_in_nI (by omega) (by decide)
    refine br_f (nI_ge (by omega) (by omega)) ⟨v, ?_⟩
    rw [e]
    by_cases h9 : op i = 9
    · have n10 : ¬ op i = 10 := by rw [h9]; decide
      refine br_t h9 (nm_r (nI_1 c) ?_)
      simp only [wY_balanced_27, e]
      refine ⟨v, br_f n10 ?_⟩
      by_cases hc : c + 1 ≤ most
      · rw [da_bal_9 h9 hc] at hp
        exact da_yb42 hm hc (ih (i + 1) (c + 1) (by omega) hc hp)
      · have hp1 := da_bv0 (da_bal_9f h9 hc) hp
        exact br_f (nI_pos (by omega)) (br_f (nI_ge (by omega) (by omega)) hp1)
    · refine br_f h9 ?_
      simp only [wY_balanced_27, e]
      by_cases h10 : op i = 10
      · refine ⟨v, br_t h10 ?_⟩
        by_cases hc : c = 0
        · have hp1 := da_bv0 (da_bal_10f h10 hc) hp
          rw [hc]
          exact nm_r da_m1 (br_t (by decide) hp1)
        · rw [da_bal_10 h10 hc] at hp
          exact nm_r (da_cm1 hc) (da_yb42 hm (by omega) (ih (i + 1) (c - 1) (by omega) (by omega) hp))
      · rw [da_bal_o h9 h10] at hp
        exact ⟨v, br_f h10 (da_yb42 hm h2 (ih (i + 1) c (by omega) h2 hp))⟩
theorem da_yw17 {post : Int32 → Prop} {op x y z rg ce lf : Nat → Int32} {n : Nat} (hn : n ≤ 24) (hok : ∀ i, i < n → da_ok op x y z i) : ∀ m i : Nat, i + m = n →
    post (da_bv (da_asok op y n m i)) → wY_wellFormed_17 post (nI n) op x y z rg ce lf (m + 1) (nI i) := by
  intro m
  induction m with
  | zero =>
    intro i h1 hp
    exact br_t (nI_le (by omega) (by omega)) hp
  | succ m ih =>
    intro i h1 hp
    have e : (nI i).toNatClampNeg = i := nI_clamp (by omega)
    have v : vp_in (nI i) 24 := vp_in_nI (by omega) (by decide)
    rw [da_asok] at hp
    refine br_f (nI_ge (by omega) (by omega)) ⟨v, ?_⟩
    rw [e]
    by_cases h8 : op i = 8
    · obtain ⟨b, hb, hy⟩ := da_ok_8 (hok i (by omega)) h8
      refine br_t h8 ⟨v, ?_⟩
      unfold da_sok at hp
      rw [if_pos h8, hy, nI_clamp (by omega)] at hp
      rw [hy, nI_add, nI_1, nI_add]
      by_cases c : i + b < n
      · rw [if_pos c] at hp
        refine br_t (nI_lt c (by omega)) ⟨v, ⟨b + 1, da_ybal (t := i + 1 + b) (most := 24) (by omega) (by decide) b (i + 1) 0 (by omega) (by omega) ?_⟩⟩
        by_cases hs : da_bal op 24 b (i + 1) 0 = true
        · rw [hs, Bool.true_and] at hp
          rw [hs]
          exact br_f da_n10 (nm_e (ih (i + 1) (by omega) hp))
        · have hs' := Bool.eq_false_iff.mpr hs
          rw [hs', Bool.false_and] at hp
          rw [hs']
          exact br_t rfl hp
      · rw [if_neg c, Bool.false_and] at hp
        exact br_f (nI_nlt (by omega) (by omega)) hp
    · rw [da_sok_t h8, Bool.true_and] at hp
      exact br_f h8 (nm_r (nI_1 i) (ih (i + 1) (by omega) hp))
theorem da_ywf {post : Int32 → Prop} {op x y z rg ce lf : Nat → Int32} {n : Nat} (hn : n ≤ 24) (hok : ∀ i, i < n → da_ok op x y z i) (hp : post (da_bv (da_wf op y n))) : wpY_wellFormed post ((nI n), op, x, y, z, rg, ce, lf) := by
  refine ⟨n + 1, da_ybal (t := n) (most := 2) hn (by decide) n 0 0 (by omega) (by omega) ?_⟩
  unfold da_wf at hp
  by_cases hs : da_bal op 2 n 0 0 = true
  · rw [hs, Bool.true_and] at hp
    rw [hs]
    exact br_f da_n10 ⟨n + 1, da_yw17 hn hok n 0 (by omega) hp⟩
  · have hs' := Bool.eq_false_iff.mpr hs
    rw [hs', Bool.false_and] at hp
    rw [hs']
    exact br_t rfl hp
