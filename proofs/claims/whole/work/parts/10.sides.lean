/-! addressSide, both walks -/
theorem da_ok_r {op x y z : Nat → Int32} {i : Nat} (h : da_ok op x y z i) :
    (op i ≤ 8 → ∃ a : Nat, a < 8 ∧ x i = nI a) ∧ (op i ≤ 7 → ∃ b : Nat, b < 8 ∧ y i = nI b) ∧ (op i ≤ 4 → ∃ c : Nat, c < 8 ∧ z i = nI c) := by
  rcases h with ⟨k, a, b, c, hk, ha, hb, hc, ho, hx, hy, hz⟩ | ⟨k, a, b, hk, hk', ha, hb, ho, hx, hy⟩ | ⟨a, b, ha, hb, hb', ho, hx, hy⟩ | ⟨a, h1, h2, ho, hx⟩ | ho
  · exact ⟨fun _ => ⟨a, ha, hx⟩, fun _ => ⟨b, hb, hy⟩, fun _ => ⟨c, hc, hz⟩⟩
  · refine ⟨fun _ => ⟨a, ha, hx⟩, fun _ => ⟨b, hb, hy⟩, fun h4 => ?_⟩
    rw [ho] at h4
    exact absurd ((nI_leI (b := 4) (by omega) (by omega)).mp h4) (by omega)
  · refine ⟨fun _ => ⟨a, ha, hx⟩, fun h4 => ?_, fun h4 => ?_⟩
    · rw [ho] at h4; exact absurd h4 (by decide)
    · rw [ho] at h4; exact absurd h4 (by decide)
  · refine ⟨fun h4 => ?_, fun h4 => ?_, fun h4 => ?_⟩
    · rw [ho] at h4; exact absurd h4 (by decide)
    · rw [ho] at h4; exact absurd h4 (by decide)
    · rw [ho] at h4; exact absurd h4 (by decide)
  · refine ⟨fun h4 => ?_, fun h4 => ?_, fun h4 => ?_⟩
    · rw [ho] at h4; exact absurd h4 (by decide)
    · rw [ho] at h4; exact absurd h4 (by decide)
    · rw [ho] at h4; exact absurd h4 (by decide)
theorem da_sh2 {v : Int32} (h : ∃ b : Nat, b < 8 ∧ v = nI b) : (1 : Int32) <<< (v &&& 31) = nI (2 ^ v.toNatClampNeg) := by
  obtain ⟨b, hb, rfl⟩ := h
  rw [nI_clamp (by omega), da_sh1 b hb]
theorem da_bt0 {m : Nat} {v : Int32} (hm : m < 256) (h : ∃ b : Nat, b < 8 ∧ v = nI b) (ht : m.testBit v.toNatClampNeg = false) : ((nI m >>> (v &&& 31)) &&& 1) = 0 := by
  obtain ⟨b, hb, rfl⟩ := h
  rw [nI_clamp (by omega)] at ht
  rw [da_bit m hm b hb, ht]; rfl
theorem da_bt1 {m : Nat} {v : Int32} (hm : m < 256) (h : ∃ b : Nat, b < 8 ∧ v = nI b) (ht : m.testBit v.toNatClampNeg = true) : ((nI m >>> (v &&& 31)) &&& 1) = 1 := by
  obtain ⟨b, hb, rfl⟩ := h
  rw [nI_clamp (by omega)] at ht
  rw [da_bit m hm b hb, ht]; rfl
theorem da_xin0 {post : Int32 → Prop} {m : Nat} {v : Int32} (hm : m < 256) (h : ∃ b : Nat, b < 8 ∧ v = nI b) (ht : m.testBit v.toNatClampNeg = false) (hp : post 0) : wpX_isInSet post (nI m) v :=
  br_t (da_bt0 hm h ht) hp
theorem da_xin1 {post : Int32 → Prop} {m : Nat} {v : Int32} (hm : m < 256) (h : ∃ b : Nat, b < 8 ∧ v = nI b) (ht : m.testBit v.toNatClampNeg = true) (hp : post 1) : wpX_isInSet post (nI m) v :=
  br_f (by rw [da_bt1 hm h ht]; decide) hp
theorem da_xam {post : Int32 → Prop} {qd ll ln rs bu cy ex oh oc sh sc : Int32} {op x y z rg ce ar ps on ls pl ov oa sl : Nat → Int32} {i : Nat} (hi : i < 24) (h : da_ok op x y z i) (hp : post (nI (da_am op x y i))) : wpX_addressRegisterOf post (qd, ll, ln, rs, bu, cy, ex, oh, oc, sh, sc, op, x, y, z, rg, ce, ar, ps, on, ls, pl, ov, oa, sl) (nI i) := by
  have e : (nI i).toNatClampNeg = i := nI_clamp (by omega)
  have v : vp_in (nI i) 24 := vp_in_nI hi (by decide)
  obtain ⟨r1, r2, r3⟩ := da_ok_r h
  simp only [wpX_addressRegisterOf, e]
  unfold da_am at hp
  by_cases h6 : op i = 6
  · rw [if_pos (Or.inl h6), ← da_sh2 (r2 (by rw [h6]; decide))] at hp
    exact ⟨v, br_t h6 ⟨v, hp⟩⟩
  · by_cases h7 : op i = 7
    · rw [if_pos (Or.inr h7), ← da_sh2 (r2 (by rw [h7]; decide))] at hp
      exact ⟨v, br_f h6 ⟨v, br_t h7 ⟨v, hp⟩⟩⟩
    · rw [if_neg (fun c => c.elim h6 h7)] at hp
      by_cases h8 : op i = 8
      · rw [if_pos h8, ← da_sh2 (r1 (by rw [h8]; decide))] at hp
        exact ⟨v, br_f h6 ⟨v, br_f h7 ⟨v, br_t h8 ⟨v, hp⟩⟩⟩⟩
      · rw [if_neg h8] at hp
        exact ⟨v, br_f h6 ⟨v, br_f h7 ⟨v, br_f h8 hp⟩⟩⟩
theorem da_xso {post : Int32 → Prop} {qd ll ln rs bu cy ex oh oc sh sc : Int32} {op x y z rg ce ar ps on ls pl ov oa sl : Nat → Int32} {i : Nat} (hi : i < 24) (h : da_ok op x y z i) (h6 : op i ≤ 6) (hp : post (nI (da_so op y z i))) : wpX_sourcesOf post (qd, ll, ln, rs, bu, cy, ex, oh, oc, sh, sc, op, x, y, z, rg, ce, ar, ps, on, ls, pl, ov, oa, sl) (nI i) := by
  have e : (nI i).toNatClampNeg = i := nI_clamp (by omega)
  have v : vp_in (nI i) 24 := vp_in_nI hi (by decide)
  obtain ⟨r1, r2, r3⟩ := da_ok_r h
  simp only [wpX_sourcesOf, e]
  unfold da_so at hp
  refine ⟨v, nm_r (da_sh2 (r2 (da_67 h6))) ⟨v, ?_⟩⟩
  by_cases h4 : op i ≤ 4
  · rw [if_pos h4, ← da_orN, ← da_sh2 (r3 h4)] at hp
    exact br_f (Int32.not_lt.mpr h4) ⟨v, hp⟩
  · rw [if_neg h4] at hp
    exact br_t (Int32.not_le.mp h4) hp

theorem da_xht1 {post : Int32 → Prop} {qd ll ln rs bu cy ex oh oc sh sc : Int32} {op x y z rg ce ar ps on ls pl ov oa sl : Nat → Int32} {i : Nat} (hi : i < 24) (h6 : op i ≤ 6) (hp : post 1) : wpX_hasTarget post (qd, ll, ln, rs, bu, cy, ex, oh, oc, sh, sc, op, x, y, z, rg, ce, ar, ps, on, ls, pl, ov, oa, sl) (nI i) := by
  have e : (nI i).toNatClampNeg = i := nI_clamp (by omega)
  simp only [wpX_hasTarget, e]
  exact ⟨vp_in_nI hi (by decide), br_f (Int32.not_lt.mpr h6) hp⟩
theorem da_xht0 {post : Int32 → Prop} {qd ll ln rs bu cy ex oh oc sh sc : Int32} {op x y z rg ce ar ps on ls pl ov oa sl : Nat → Int32} {i : Nat} (hi : i < 24) (h6 : ¬ op i ≤ 6) (hp : post 0) : wpX_hasTarget post (qd, ll, ln, rs, bu, cy, ex, oh, oc, sh, sc, op, x, y, z, rg, ce, ar, ps, on, ls, pl, ov, oa, sl) (nI i) := by
  have e : (nI i).toNatClampNeg = i := nI_clamp (by omega)
  simp only [wpX_hasTarget, e]
  exact ⟨vp_in_nI hi (by decide), br_t (Int32.not_le.mp h6) hp⟩
theorem da_xa36 {post : Int32 → Prop} {J : Int32 → Int32 → Prop} {qd ll rs bu cy ex oh oc sh sc : Int32} {op x y z rg ce ar ps on ls pl ov oa sl : Nat → Int32} {n t m : Nat} (hn : n ≤ 24) (hok : ∀ i, i < n → da_ok op x y z i) (hm : m < 256)
    (hp : J (nI (da_fd (da_xr op x y z) n m)) (nI (t + 1))) : ∀ d i : Nat, i + d = n →
    wX_addressSide_36 post J (nI t) qd ll (nI n) rs bu cy ex oh oc sh sc op x y z rg ce ar ps on ls pl ov oa sl (d + 1) (nI (da_fd (da_xr op x y z) i m)) (nI i) := by
  intro d
  induction d with
  | zero =>
    intro i h
    have e : i = n := by omega
    subst e
    exact br_t (nI_le (Nat.le_refl _) (by omega)) (nm_r (nI_1 t) hp)
  | succ d ih =>
    intro i h
    have hi : i < 24 := by omega
    have hin : i < n := by omega
    have e : (nI i).toNatClampNeg = i := nI_clamp (by omega)
    have v : vp_in (nI i) 24 := vp_in_nI hi (by decide)
    have h1 := ih (i + 1) (by omega)
    have hm' : da_fd (da_xr op x y z) i m < 256 := da_fd_256 _ n (da_xr_b op x y z (da_ok_B op x y z hok)) m hm i (by omega)
    have hs : da_fd (da_xr op x y z) (i + 1) m = da_xr op x y z i (da_fd (da_xr op x y z) i m) := rfl
    rw [hs] at h1
    generalize da_fd (da_xr op x y z) i m = w at h1 hm' ⊢
    obtain ⟨r1, r2, r3⟩ := da_ok_r (hok i hin)
    unfold da_xr at h1
    refine br_f (nI_ge hin (by omega)) ?_
    by_cases h6 : op i ≤ 6
    · refine da_xht1 hi h6 (br_f da_n10 ⟨v, ?_⟩)
      rw [e]
      have hx := r1 (Int32.le_trans h6 (by decide))
      by_cases hb : w.testBit (x i).toNatClampNeg = true
      · rw [if_pos ⟨h6, hb⟩] at h1
        refine da_xin1 hm' hx hb (br_f da_n10 (da_xso hi (hok i hin) h6 ?_))
        exact nm_r (da_orN _ _) (nm_r (nI_1 i) h1)
      · rw [if_neg (fun c => hb c.2)] at h1
        exact da_xin0 hm' hx (Bool.eq_false_iff.mpr hb) (br_t rfl (nm_r (nI_1 i) h1))
    · rw [if_neg (fun c => h6 c.1)] at h1
      exact da_xht0 hi h6 (br_t rfl (nm_r (nI_1 i) h1))
theorem da_xa28 {post : Int32 → Prop} {qd ll rs bu cy ex oh oc sh sc : Int32} {op x y z rg ce ar ps on ls pl ov oa sl : Nat → Int32} {n m : Nat} (hn : n ≤ 24) (hok : ∀ i, i < n → da_ok op x y z i) (hm : m < 256)
    (hp : post (nI (da_it (da_fd (da_xr op x y z) n) 8 m))) : ∀ d t : Nat, t + d = 8 →
    wX_addressSide_28 post qd ll (nI n) rs bu cy ex oh oc sh sc op x y z rg ce ar ps on ls pl ov oa sl (d + 1) (nI (da_it (da_fd (da_xr op x y z) n) t m)) (nI t) := by
  intro d
  induction d with
  | zero =>
    intro t h
    have e : t = 8 := by omega
    subst e
    exact br_t (by decide) hp
  | succ d ih =>
    intro t h
    have hm' := (da_fix _ (da_xr_g op x y z (da_ok_B op x y z hok)) m hm t).1
    exact br_f (nI_ge (b := 8) (by omega) (by decide)) ⟨n + 1, da_xa36 hn hok hm' (ih (t + 1) (by omega)) n 0 (by omega)⟩
theorem da_xa4 {post : Int32 → Prop} {qd ll rs bu cy ex oh oc sh sc : Int32} {op x y z rg ce ar ps on ls pl ov oa sl : Nat → Int32} {n : Nat} (hn : n ≤ 24) (hok : ∀ i, i < n → da_ok op x y z i)
    (hp : post (nI (da_X op x y z n))) : ∀ d i : Nat, i + d = n →
    wX_addressSide_4 post qd ll (nI n) rs bu cy ex oh oc sh sc op x y z rg ce ar ps on ls pl ov oa sl (d + 1) (nI (da_fd (da_xs op x y) i 0)) (nI i) := by
  intro d
  induction d with
  | zero =>
    intro i h
    have e : i = n := by omega
    subst e
    exact br_t (nI_le (Nat.le_refl _) (by omega)) ⟨9, da_xa28 hn hok (da_X_b op x y z (da_ok_B op x y z hok)) hp 8 0 (by omega)⟩
  | succ d ih =>
    intro i h
    exact br_f (nI_ge (by omega) (by omega)) (da_xam (by omega) (hok i (by omega)) (nm_r (da_orN _ _) (nm_r (nI_1 i) (ih (i + 1) (by omega)))))
theorem da_xside {post : Int32 → Prop} {qd ll rs bu cy ex oh oc sh sc : Int32} {op x y z rg ce ar ps on ls pl ov oa sl : Nat → Int32} {n : Nat} (hn : n ≤ 24) (hok : ∀ i, i < n → da_ok op x y z i)
    (hp : post (nI (da_X op x y z n))) : wpX_addressSide post (qd, ll, (nI n), rs, bu, cy, ex, oh, oc, sh, sc, op, x, y, z, rg, ce, ar, ps, on, ls, pl, ov, oa, sl) :=
  ⟨n + 1, da_xa4 hn hok hp n 0 (by omega)⟩

theorem da_ya103 {post : Int32 → Prop} {J : Int32 → Int32 → Prop} {yn : Int32} {op x y z rg ce lf : Nat → Int32} {i m : Nat} (hi : i < 24) (h : da_ok op x y z i) (hm : m < 256)
    (hp : J (nI (da_y4 op x z i m)) (nI (i + 1))) : wY_grown_103 post J (nI m) (nI i) yn op x y z rg ce lf := by
  have e : (nI i).toNatClampNeg = i := nI_clamp (by omega)
  have v : vp_in (nI i) 24 := vp_in_nI hi (by decide)
  obtain ⟨r1, r2, r3⟩ := da_ok_r h
  simp only [wY_grown_103, e]
  unfold da_y4 at hp
  by_cases h4 : op i ≤ 4
  · have hx := r1 (Int32.le_trans h4 (by decide))
    refine ⟨v, br_f (Int32.not_lt.mpr h4) ⟨v, ?_⟩⟩
    by_cases hb : m.testBit (x i).toNatClampNeg = true
    · rw [if_pos ⟨h4, hb⟩, ← da_orN, ← da_sh2 (r3 h4)] at hp
      exact br_t (da_bt1 hm hx hb) ⟨v, nm_e (nm_r (nI_1 i) hp)⟩
    · rw [if_neg (fun c => hb c.2)] at hp
      exact br_f (by rw [da_bt0 hm hx (Bool.eq_false_iff.mpr hb)]; decide) (nm_r (nI_1 i) hp)
  · rw [if_neg (fun c => h4 c.1)] at hp
    exact ⟨v, br_t (Int32.not_le.mp h4) (nm_r (nI_1 i) hp)⟩
theorem da_ya67 {post : Int32 → Prop} {J : Int32 → Int32 → Prop} {yn : Int32} {op x y z rg ce lf : Nat → Int32} {i m : Nat} (hi : i < 24) (h : da_ok op x y z i) (hm : m < 256)
    (hp : wY_grown_103 post J (nI (da_y3 op x y i m)) (nI i) yn op x y z rg ce lf) : wY_grown_67 post J (nI m) (nI i) yn op x y z rg ce lf := by
  have e : (nI i).toNatClampNeg = i := nI_clamp (by omega)
  have v : vp_in (nI i) 24 := vp_in_nI hi (by decide)
  obtain ⟨r1, r2, r3⟩ := da_ok_r h
  simp only [wY_grown_67, e]
  unfold da_y3 at hp
  by_cases h4 : op i ≤ 6
  · have hx := r1 (Int32.le_trans h4 (by decide))
    refine ⟨v, br_f (Int32.not_lt.mpr h4) ⟨v, ?_⟩⟩
    by_cases hb : m.testBit (x i).toNatClampNeg = true
    · rw [if_pos ⟨h4, hb⟩, ← da_orN, ← da_sh2 (r2 (da_67 h4))] at hp
      exact br_t (da_bt1 hm hx hb) ⟨v, nm_e hp⟩
    · rw [if_neg (fun c => hb c.2)] at hp
      exact br_f (by rw [da_bt0 hm hx (Bool.eq_false_iff.mpr hb)]; decide) hp
  · rw [if_neg (fun c => h4 c.1)] at hp
    exact ⟨v, br_t (Int32.not_le.mp h4) hp⟩
theorem da_ya45 {post : Int32 → Prop} {J : Int32 → Int32 → Prop} {yn : Int32} {op x y z rg ce lf : Nat → Int32} {i m : Nat} (hi : i < 24) (h : da_ok op x y z i)
    (hp : wY_grown_67 post J (nI (da_y2 op x i m)) (nI i) yn op x y z rg ce lf) : wY_grown_45 post J (nI m) (nI i) yn op x y z rg ce lf := by
  have e : (nI i).toNatClampNeg = i := nI_clamp (by omega)
  have v : vp_in (nI i) 24 := vp_in_nI hi (by decide)
  obtain ⟨r1, r2, r3⟩ := da_ok_r h
  simp only [wY_grown_45, e]
  unfold da_y2 at hp
  by_cases h8 : op i = 8
  · rw [if_pos h8, ← da_orN, ← da_sh2 (r1 (by rw [h8]; decide))] at hp
    exact ⟨v, br_t h8 ⟨v, nm_e hp⟩⟩
  · rw [if_neg h8] at hp
    exact ⟨v, br_f h8 hp⟩
theorem da_ya4 {post : Int32 → Prop} {op x y z rg ce lf : Nat → Int32} {n m : Nat} (hn : n ≤ 24) (hok : ∀ i, i < n → da_ok op x y z i) (hm : m < 256)
    (hp : post (nI (da_fd (da_yg op x y z) n m))) : ∀ d i : Nat, i + d = n →
    wY_grown_4 post (nI n) op x y z rg ce lf (d + 1) (nI (da_fd (da_yg op x y z) i m)) (nI i) := by
  intro d
  induction d with
  | zero =>
    intro i h
    have e : i = n := by omega
    subst e
    exact br_t (nI_le (Nat.le_refl _) (by omega)) hp
  | succ d ih =>
    intro i h
    have hi : i < 24 := by omega
    have hin : i < n := by omega
    have e : (nI i).toNatClampNeg = i := nI_clamp (by omega)
    have v : vp_in (nI i) 24 := vp_in_nI hi (by decide)
    have h1 := ih (i + 1) (by omega)
    have B := da_ok_B op x y z hok
    have hm' : da_fd (da_yg op x y z) i m < 256 := da_fd_256 _ n (fun i m hi h => (da_yg_b op x y z B i m hi h).2.2.2) m hm i (by omega)
    have hs : da_fd (da_yg op x y z) (i + 1) m = da_yg op x y z i (da_fd (da_yg op x y z) i m) := rfl
    rw [hs] at h1
    generalize da_fd (da_yg op x y z) i m = w at h1 hm' ⊢
    obtain ⟨b1, b2, b3, b4⟩ := da_yg_b op x y z B i w hin hm'
    obtain ⟨r1, r2, r3⟩ := da_ok_r (hok i hin)
    have h45 := da_ya45 (post := post) (rg := rg) (ce := ce) (lf := lf) (yn := nI n) hi (hok i hin) (da_ya67 hi (hok i hin) b2 (da_ya103 hi (hok i hin) b3 h1))
    unfold da_y1 at h45
    refine br_f (nI_ge hin (by omega)) ?_
    simp only [e]
    by_cases h6 : op i = 6
    · rw [if_pos (Or.inl h6), ← da_orN, ← da_sh2 (r2 (by rw [h6]; decide))] at h45
      refine ⟨v, br_t h6 ?_⟩
      simp only [wY_grown_34, e]
      exact ⟨v, nm_e h45⟩
    · by_cases h7 : op i = 7
      · rw [if_pos (Or.inr h7), ← da_orN, ← da_sh2 (r2 (by rw [h7]; decide))] at h45
        refine ⟨v, br_f h6 ⟨v, br_t h7 ?_⟩⟩
        simp only [wY_grown_34, e]
        exact ⟨v, nm_e h45⟩
      · rw [if_neg (fun c => c.elim h6 h7)] at h45
        exact ⟨v, br_f h6 ⟨v, br_f h7 h45⟩⟩
theorem da_ya9 {post : Int32 → Prop} {op x y z rg ce lf : Nat → Int32} {n : Nat} (hn : n ≤ 24) (hok : ∀ i, i < n → da_ok op x y z i)
    (hp : post (nI (da_Y op x y z n))) : ∀ d t : Nat, t + d = 9 →
    wY_addressSide_4 post (nI n) op x y z rg ce lf (d + 1) (nI (da_it (da_fd (da_yg op x y z) n) t 0)) (nI t) := by
  intro d
  induction d with
  | zero =>
    intro t h
    have e : t = 9 := by omega
    subst e
    exact br_t (by decide) hp
  | succ d ih =>
    intro t h
    have hm' := (da_fix _ (da_yg_g op x y z (da_ok_B op x y z hok)) 0 (by decide) t).1
    exact br_f (nI_ge (b := 9) (by omega) (by decide)) ⟨n + 1, da_ya4 hn hok hm' (nm_r (nI_1 t) (ih (t + 1) (by omega))) n 0 (by omega)⟩
theorem da_yside {post : Int32 → Prop} {op x y z rg ce lf : Nat → Int32} {n : Nat} (hn : n ≤ 24) (hok : ∀ i, i < n → da_ok op x y z i)
    (hp : post (nI (da_Y op x y z n))) : wpY_addressSide post ((nI n), op, x, y, z, rg, ce, lf) :=
  ⟨10, da_ya9 hn hok hp 9 0 (by omega)⟩
theorem i_vc_addressSide {k : Nat} {u : SX} {v : SY} (I : i_Rel k u v) (hk : k + 5 ≤ 2562) : wpX_addressSide (fun r => wpY_addressSide (fun r' => r' = r ∧ i_Rel (k + 5) u v) v) u := by
  obtain ⟨dq, lt, n, rs, bu, cy, ex, oh, oc, sh, sc, op, x, y, z, rg, ce, ar, ps, on, ls, pl, ov, oa, sl, lf, h1, h2, h3, h4, h5, h6, rfl, rfl⟩ := I
  exact da_xside h5 h6 (da_yside h5 h6 ⟨congrArg nI (da_XY op x y z (da_ok_B op x y z h6)).symm, da_Rel _ h1 h2 h3 h4 h5 h6⟩)
