/-! The reference's run -/
theorem da_pm1 (v : Int32) : v + (-1) = v - 1 := (Int32.sub_eq_add_neg v 1).symm
theorem da_ybeg {post : Int32 → Prop} {yn : Int32} {op x y z rg ce lf : Nat → Int32} : ∀ m c : Nat, m ≤ 24 → 1 ≤ c → c + m ≤ 100 → post (nI (da_bg op m c)) →
    wY_beginOf_6 post yn op x y z rg ce lf (m + 1) (nI c) (nI m - 1) := by
  intro m
  induction m with
  | zero =>
    intro c _ _ _ hp
    rw [da_bg_0] at hp
    exact br_t (by decide) hp
  | succ m ih =>
    intro c hm hc hcm hp
    have e : (nI m).toNatClampNeg = m := nI_clamp (by omega)
    have v : vp_in (nI m) 24 := vp_in_nI (by omega) (by decide)
    rw [nI_pred]
    refine br_f (nI_pos (by omega)) ⟨v, ?_⟩
    rw [e]
    by_cases h10 : op m = 10
    · have n9 : ¬ op m = 9 := da_n109 h10
      rw [da_bg_10 op h10 hc] at hp
      refine br_t h10 (nm_r (nI_1 c) ?_)
      simp only [wY_beginOf_24, e]
      exact ⟨v, br_f n9 (br_f (nI_ne0 (by omega) (by omega)) (nm_r (da_pm1 _) (ih (c + 1) (by omega) (by omega) (by omega) hp)))⟩
    · refine br_f h10 ?_
      simp only [wY_beginOf_24, e]
      refine ⟨v, ?_⟩
      by_cases h9 : op m = 9
      · refine br_t h9 (nm_r (da_cm1 (by omega)) ?_)
        by_cases c1 : c = 1
        · subst c1
          rw [da_bg_9a op h9] at hp
          exact br_t rfl hp
        · rw [da_bg_9b op h9 (by omega)] at hp
          exact br_f (nI_ne0 (by omega) (by omega)) (nm_r (da_pm1 _) (ih (c - 1) (by omega) (by omega) (by omega) hp))
      · rw [da_bg_o op h9 h10] at hp
        exact br_f h9 (br_f (nI_ne0 (by omega) (by omega)) (nm_r (da_pm1 _) (ih c (by omega) (by omega) (by omega) hp)))
theorem da_ysum {post : Int32 → Prop} {yn : Int32} {op x y z rg ce lf : Nat → Int32} {o a b : Int32} (hp : post (da_sum o a b)) : wpY_sum post (yn, op, x, y, z, rg, ce, lf) o a b := by
  unfold da_sum at hp
  refine br_c (fun h => ?_) (fun h0 => br_c (fun h => ?_) (fun h1 => br_c (fun h => ?_) (fun h2 => br_c (fun h => ?_) (fun h3 => ?_))))
  · rw [if_pos h] at hp; exact hp
  · rw [if_neg h0, if_pos h] at hp; exact hp
  · rw [if_neg h0, if_neg h1, if_pos h] at hp; exact hp
  · rw [if_neg h0, if_neg h1, if_neg h2, if_pos h] at hp; exact hp
  · rw [if_neg h0, if_neg h1, if_neg h2, if_neg h3] at hp
    by_cases c : a < b
    · rw [if_pos c] at hp
      exact br_f (Int32.not_le.mpr c) hp
    · rw [if_neg c] at hp
      exact br_t (Int32.not_lt.mp c) hp
theorem da_inI {v : Int32} {m : Nat} (hm : m < 2 ^ 31) (h : ∃ a : Nat, a < m ∧ v = nI a) : vp_in v m := by
  obtain ⟨a, ha, rfl⟩ := h
  exact vp_in_nI ha hm
theorem da_in15 (v : Int32) : vp_in (v &&& 15) 16 := pk_andIn v 4 (by decide) (by decide)

theorem da_ystep {post : Int32 → SY → Prop} {op x y z : Nat → Int32} {n : Nat} (G : da_G op x y z n) (s : da_St) (I : da_I op n s) (hn : s.1 < n)
    (hp : post (nI (da_st op x y z s).1) (nI n, op, x, y, z, (da_st op x y z s).2.1, (da_st op x y z s).2.2.1, (da_st op x y z s).2.2.2)) :
    wpY_step post (nI n, op, x, y, z, s.2.1, s.2.2.1, s.2.2.2) (nI s.1) := by
  have n24 : s.1 < 24 := Nat.lt_of_lt_of_le hn G.1
  have e : (nI s.1).toNatClampNeg = s.1 := nI_clamp (by omega)
  have v : vp_in (nI s.1) 24 := vp_in_nI n24 (by decide)
  simp only [wpY_step, e]
  refine ⟨v, nm_e ?_⟩
  rcases da_kind op x y z (G.2.1 s.1 hn) with k | k | k | k | k
  · obtain ⟨k6, h7, h8, h9, h10, hx, hy, kk⟩ := k
    have vx := da_inI (m := 8) (by decide) hx
    have vy := da_inI (m := 8) (by decide) hy
    rw [da_st_t op x y z h7 h8 h9 h10] at hp
    dsimp only at hp
    unfold da_tv at hp
    rcases kk with h5 | h6 | ⟨h4, n5, n6, hz⟩
    · rw [if_pos h5] at hp
      exact br_t (by rw [h5]; decide) (br_t h5 ⟨v, v, vy, v, vx, nm_e (by rw [nI_1]; exact hp)⟩)
    · have n5 : ¬ op s.1 = 5 := by rw [h6]; decide
      rw [if_neg n5, if_pos h6] at hp
      exact br_t (by rw [h6]; decide) (br_f n5 (br_t h6 ⟨v, v, vy, v, da_in15 _, vx, nm_e (by rw [nI_1]; exact hp)⟩))
    · have vz := da_inI (m := 8) (by decide) hz
      rw [if_neg n5, if_neg n6] at hp
      refine br_f (Int32.not_lt.mpr h4) ⟨v, v, vy, v, vz, da_ysum ⟨vx, nm_e ?_⟩⟩
      rw [nI_1]; exact hp
  · obtain ⟨h7, hx, hy⟩ := k
    have vx := da_inI (m := 8) (by decide) hx
    have vy := da_inI (m := 8) (by decide) hy
    rw [da_st_7 op x y z h7] at hp
    dsimp only at hp
    exact br_t (by rw [h7]; decide) (br_f (by rw [h7]; decide) (br_f (by rw [h7]; decide) (br_t h7 ⟨v, vy, v, v, vx, da_in15 _, nm_e (by rw [nI_1]; exact hp)⟩)))
  · obtain ⟨h8, hx, b, hb1, hb8, hy⟩ := k
    have vx := da_inI (m := 8) (by decide) hx
    rw [da_st_8 op x y z h8] at hp
    dsimp only at hp
    refine br_t (by rw [h8]; decide) (br_f (by rw [h8]; decide) (br_f (by rw [h8]; decide) (br_f (by rw [h8]; decide) (br_t h8 ⟨v, vx, ?_⟩))))
    by_cases c : s.2.1 (x s.1).toNatClampNeg = 0
    · rw [if_pos c, hy, nI_clamp (by omega)] at hp
      refine br_t c ⟨v, ?_⟩
      rw [hy, nI_1, nI_add]; exact hp
    · rw [if_neg c] at hp
      refine br_f c ?_
      simp only [wY_step_213]
      refine br_f (by rw [h8]; decide) (br_f (by rw [h8]; decide) ?_)
      rw [nI_1]; exact hp
  · obtain ⟨h9, a, ha1, ha6, hx⟩ := k
    rw [da_st_9 op x y z h9] at hp
    dsimp only at hp
    refine br_t (by rw [h9]; decide) (br_f (by rw [h9]; decide) (br_f (by rw [h9]; decide) (br_f (by rw [h9]; decide) (br_f (by rw [h9]; decide) ?_))))
    simp only [wY_step_213, e]
    refine br_t h9 ⟨v, v, nm_e ?_⟩
    rw [nI_1]; exact hp
  · cases he : da_enc op s.1 with
    | nil => exact absurd he (G.2.2.2.2.1 s.1 hn k)
    | cons b st =>
      obtain ⟨p, hp1, hp6, hpL⟩ := I.2 b (by rw [he]; exact List.mem_cons_self)
      obtain ⟨hb1, hb2, hb3⟩ := da_enc_hd op he
      have hb : da_bg op s.1 1 = b := by rw [da_bg_hd]; unfold da_hd; rw [he]; rfl
      have eb : (nI b).toNatClampNeg = b := nI_clamp (by omega)
      have vb : vp_in (nI b) 24 := vp_in_nI (by omega) (by decide)
      rw [da_st_10 op x y z k he] at hp
      dsimp only at hp
      refine br_t (by rw [k]; decide) (br_f (by rw [k]; decide) (br_f (by rw [k]; decide) (br_f (by rw [k]; decide) (br_f (by rw [k]; decide) ?_))))
      simp only [wY_step_213]
      refine br_f (by rw [k]; decide) (br_t k ?_)
      simp only [wpY_beginOf]
      refine nm_e ⟨s.1 + 1, da_ybeg s.1 1 (by omega) (by omega) (by omega) ?_⟩
      rw [hb]
      simp only [eb]
      refine ⟨vb, vb, nm_e ⟨vb, ?_⟩⟩
      rw [pk_us]
      by_cases c : 0 < s.2.2.2 b - 1
      · rw [if_pos c] at hp
        refine br_f (Int32.not_le.mpr c) ?_
        rw [nI_1]; exact hp
      · rw [if_neg c] at hp
        refine br_t (Int32.not_lt.mp c) ?_
        rw [nI_1]; exact hp
theorem da_yloop {post : Int32 → SY → Prop} {op x y z : Nat → Int32} {n K m : Nat} {sd : Nat → Bool} {tr : Nat → da_St} (F : da_F op x y z n K m sd tr) (hK : K ≤ 864)
    (hp : post (nI K) (nI n, op, x, y, z, (tr K).2.1, (tr K).2.2.1, (tr K).2.2.2)) : ∀ d k : Nat, k + d = K →
    wY_run_16 post (d + 1) (nI (tr k).1) (nI k) (nI k) (nI n) op x y z (tr k).2.1 (tr k).2.2.1 (tr k).2.2.2 := by
  obtain ⟨G, ht, hlt, hKn, hI, _⟩ := F
  have hn24 := G.1
  intro d
  induction d with
  | zero =>
    intro k h
    have e : k = K := by omega
    subst e
    rw [hKn]
    exact br_f (nI_ge (b := 4000) (by omega) (by decide)) (br_t (nI_le (Nat.le_refl _) (by omega)) hp)
  | succ d ih =>
    intro k h
    have h1 := ih (k + 1) (by omega)
    have hk := hlt k (by omega)
    rw [ht] at h1
    exact br_f (nI_ge (b := 4000) (by omega) (by decide)) (br_f (nI_ge hk (by omega)) (da_ystep G (tr k) (hI k (by omega)) hk (nm_r (nI_1 k) (nm_r (nI_1 k) h1))))
