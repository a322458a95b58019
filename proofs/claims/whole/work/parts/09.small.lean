/-! The relation, the constructors, the small methods -/
def i_Rel (k : Nat) (u : SX) (v : SY) : Prop :=
  ∃ (dq lt n : Nat) (rs bu cy ex oh oc sh sc : Int32) (op x y z rg ce ar ps on ls pl ov oa sl lf : Nat → Int32),
    1 ≤ dq ∧ dq ≤ 4 ∧ 1 ≤ lt ∧ lt ≤ 6 ∧ n ≤ 24 ∧ (∀ i, i < n → da_ok op x y z i) ∧
    u = ((nI dq), (nI lt), (nI n), rs, bu, cy, ex, oh, oc, sh, sc, op, x, y, z, rg, ce, ar, ps, on, ls, pl, ov, oa, sl) ∧ v = ((nI n), op, x, y, z, rg, ce, lf)
theorem i_up {k : Nat} {u : SX} {v : SY} (h : i_Rel k u v) : i_Rel (k + 5) u v := h
theorem da_Rel (k : Nat) {dq lt n : Nat} {rs bu cy ex oh oc sh sc : Int32} {op x y z rg ce ar ps on ls pl ov oa sl lf : Nat → Int32}
    (h1 : 1 ≤ dq) (h2 : dq ≤ 4) (h3 : 1 ≤ lt) (h4 : lt ≤ 6) (h5 : n ≤ 24) (h6 : ∀ i, i < n → da_ok op x y z i) :
    i_Rel k ((nI dq), (nI lt), (nI n), rs, bu, cy, ex, oh, oc, sh, sc, op, x, y, z, rg, ce, ar, ps, on, ls, pl, ov, oa, sl) ((nI n), op, x, y, z, rg, ce, lf) :=
  ⟨dq, lt, n, rs, bu, cy, ex, oh, oc, sh, sc, op, x, y, z, rg, ce, ar, ps, on, ls, pl, ov, oa, sl, lf, h1, h2, h3, h4, h5, h6, rfl, rfl⟩
theorem da_clamp {post : Int32 → Prop} {p : Int32} (m : Nat) (h1 : 1 ≤ m) (hm : m < 2 ^ 31) (h : ∀ j : Nat, 1 ≤ j → j ≤ m → post (nI j)) : wpX_clamped post p (nI m) := by
  by_cases c : (1 : Int32) ≤ p
  · obtain ⟨j, hj, rfl⟩ := nI_of (x := p) (Int32.not_lt.mpr (Int32.le_trans (by decide) c))
    have c1 : 1 ≤ j := (nI_leI (a := 1) (by omega) hj).mp c
    refine br_t c ?_
    by_cases c2 : j ≤ m
    · exact br_t (nI_le c2 hm) (h j c1 c2)
    · exact br_f (nI_ge (by omega) hj) (h m h1 (Nat.le_refl _))
  · exact br_f c (h 1 (Nat.le_refl _) h1)
theorem i_vc0 (k0 : Int32) (k1 : Int32) : wpX_init (fun u => wpY_init (fun v => i_Rel 2 u v) k0 k1) k0 k1 :=
  da_clamp 4 (by decide) (by decide) (fun _ h1 h2 => da_clamp 6 (by decide) (by decide) (fun _ h3 h4 =>
    da_Rel 2 (n := 0) h1 h2 h3 h4 (Nat.zero_le _) (fun i hi => absurd hi (Nat.not_lt_zero i))))

theorem da_xReg1 {post : Int32 → Prop} {j : Nat} (hj : j < 8) (hp : post 1) : wpX_isRegister post (nI j) :=
  br_f (nI_pos (by omega)) (br_f (nI_ge (b := 8) hj (by decide)) hp)
theorem da_xReg0 {post : Int32 → Prop} {v : Int32} (h : v < 0 ∨ nI 8 ≤ v) (hp : post 0) : wpX_isRegister post v := by
  by_cases c : v < 0
  · exact br_t c hp
  · exact br_f c (br_t (h.resolve_left c) hp)
theorem da_yReg1 {post : Int32 → Prop} {yn : Int32} {op x y z rg ce lf : Nat → Int32} {j : Nat} (hj : j < 8) (hp : post 1) : wpY_isRegister post (yn, op, x, y, z, rg, ce, lf) (nI j) :=
  br_f (nI_pos (by omega)) (br_f (nI_nlt (a := 7) (by omega) (by decide)) hp)
theorem da_yReg0 {post : Int32 → Prop} {yn : Int32} {op x y z rg ce lf : Nat → Int32} {v : Int32} (h : v < 0 ∨ nI 8 ≤ v) (hp : post 0) : wpY_isRegister post (yn, op, x, y, z, rg, ce, lf) v := by
  by_cases c : v < 0
  · exact br_t c hp
  · have h8 : (8 : Int32) ≤ v := h.resolve_left c
    exact br_f c (br_t (Int32.lt_of_lt_of_le (by decide) h8) hp)
theorem da_ix8 (v : Int32) : (v < 0 ∨ nI 8 ≤ v) ∨ ∃ j : Nat, j < 8 ∧ v = nI j := by
  rcases pk_ix v (n := 8) (by decide) with h | h | h
  · exact Or.inl (Or.inl h)
  · exact Or.inl (Or.inr h)
  · exact Or.inr h
theorem da_n10 : ¬ (1 : Int32) = 0 := by decide

def da_okv (o a b c : Int32) : Prop := da_ok (fun _ => o) (fun _ => a) (fun _ => b) (fun _ => c) 0
theorem da_X60 : ∀ k : Nat, k ≤ 4 → ∀ (post : Int32 → Prop) (a b c : Int32), wX_isInstruction_60 post a b c → wpX_isInstruction post (nI k) a b c
  | 0, _, _, _, _, _, h => br_f (by decide) (br_f (by decide) (br_t rfl h))
  | 1, _, _, _, _, _, h => br_f (by decide) (br_f (by decide) (br_f (by decide) (br_t rfl h)))
  | 2, _, _, _, _, _, h => br_f (by decide) (br_f (by decide) (br_f (by decide) (br_f (by decide) (br_t rfl h))))
  | 3, _, _, _, _, _, h => br_f (by decide) (br_f (by decide) (br_f (by decide) (br_f (by decide) (br_f (by decide) (br_t rfl h)))))
  | 4, _, _, _, _, _, h => br_f (by decide) (br_f (by decide) (br_f (by decide) (br_f (by decide) (br_f (by decide) (br_f (by decide) (br_t rfl h))))))
  | _ + 5, hk, _, _, _, _, _ => absurd hk (by omega)
theorem da_X87 : ∀ k : Nat, 5 ≤ k → k ≤ 7 → ∀ (post : Int32 → Prop) (a b c : Int32), wX_isInstruction_87 post a b → wpX_isInstruction post (nI k) a b c := by
  intro k h5 h7 post a b c h
  have h9 : ∀ q : Nat, q < 5 → ¬ nI k = nI q := fun q hq e => by
    have := (nI_eq (by omega) (by omega)).mp e
    omega
  refine br_f (nI_pos (by omega)) (br_f (nI_nlt (a := 10) (by omega) (by decide)) (br_f (h9 0 (by omega)) (br_f (h9 1 (by omega)) (br_f (h9 2 (by omega)) (br_f (h9 3 (by omega)) (br_f (h9 4 (by omega)) ?_))))))
  by_cases e5 : k = 5
  · rw [e5]; exact br_t rfl h
  · have n5 : ¬ nI k = nI 5 := fun e => e5 ((nI_eq (by omega) (by omega)).mp e)
    by_cases e6 : k = 6
    · rw [e6]; exact br_f (by decide) (br_t rfl h)
    · rw [show k = 7 by omega]; exact br_f (by decide) (br_f (by decide) (br_t rfl h))
theorem da_X8 {post : Int32 → Prop} {a b c : Int32} (h : wpX_isRegister (fun r_22 => (((r_22 = 0 → (post 0)) ∧ (¬ r_22 = 0 → (((b < 1 → (post 0)) ∧ (¬ b < 1 → (((8 < b → (post 0)) ∧ (¬ 8 < b → (post 1))))))))))) a) : wpX_isInstruction post 8 a b c :=
  br_f (by decide) (br_f (by decide) (br_f (by decide) (br_f (by decide) (br_f (by decide) (br_f (by decide) (br_f (by decide) (br_f (by decide) (br_f (by decide) (br_f (by decide) (br_t rfl h))))))))))
theorem da_X9 {post : Int32 → Prop} {a b c : Int32} (h : ((a < 1 → (post 0)) ∧ (¬ a < 1 → (((6 < a → (post 0)) ∧ (¬ 6 < a → (post 1))))))) : wpX_isInstruction post 9 a b c :=
  br_f (by decide) (br_f (by decide) (br_f (by decide) (br_f (by decide) (br_f (by decide) (br_f (by decide) (br_f (by decide) (br_f (by decide) (br_f (by decide) (br_f (by decide) (br_f (by decide) (br_t rfl h)))))))))))
theorem da_X10 {post : Int32 → Prop} {a b c : Int32} (h : post 1) : wpX_isInstruction post 10 a b c :=
  br_f (by decide) (br_f (by decide) (br_f (by decide) (br_f (by decide) (br_f (by decide) (br_f (by decide) (br_f (by decide) (br_f (by decide) (br_f (by decide) (br_f (by decide) (br_f (by decide) (br_f (by decide) (br_t rfl h))))))))))))

theorem da_ins (o a b c : Int32) : ∃ r : Int32, (r = 0 ∨ (r = 1 ∧ da_okv o a b c)) ∧ (∀ post : Int32 → Prop, post r → wpX_isInstruction post o a b c) ∧
    (∀ (post : Int32 → Prop) (yn : Int32) (op x y z rg ce lf : Nat → Int32), post r → wpY_fits post (yn, op, x, y, z, rg, ce, lf) o a b c) := by
  rcases pk_ix o (n := 11) (by decide) with h | h | ⟨k, hk, rfl⟩
  · exact ⟨0, Or.inl rfl, fun post hp => br_t h hp, fun post _ _ _ _ _ _ _ _ hp => br_t h hp⟩
  · have h11 : (11 : Int32) ≤ o := h
    have n0 : ¬ o < 0 := Int32.not_lt.mpr (Int32.le_trans (by decide) h11)
    have n10 : (10 : Int32) < o := Int32.lt_of_lt_of_le (by decide) h11
    exact ⟨0, Or.inl rfl, fun post hp => br_f n0 (br_t n10 hp), fun post _ _ _ _ _ _ _ _ hp => br_f n0 (br_f (Int32.not_le.mpr n10) hp)⟩
  · have n0 : ¬ nI k < 0 := nI_pos (by omega)
    have l10 : nI k ≤ 10 := nI_le (b := 10) (by omega) (by decide)
    by_cases k4 : k ≤ 4
    · have n4 : ¬ (4 : Int32) < nI k := nI_nlt (a := 4) (by omega) (by decide)
      rcases da_ix8 a with ha | ⟨i, hi, rfl⟩
      · exact ⟨0, Or.inl rfl, fun post hp => da_X60 k k4 _ _ _ _ (da_xReg0 ha (br_t rfl hp)),
          fun post _ _ _ _ _ _ _ _ hp => br_f n0 (br_t l10 (br_f n4 (da_yReg0 ha (br_t rfl hp))))⟩
      · rcases da_ix8 b with hb | ⟨j, hj, rfl⟩
        · exact ⟨0, Or.inl rfl, fun post hp => da_X60 k k4 _ _ _ _ (da_xReg1 hi (br_f da_n10 (da_xReg0 hb (br_t rfl hp)))),
            fun post _ _ _ _ _ _ _ _ hp => br_f n0 (br_t l10 (br_f n4 (da_yReg1 hi (br_f da_n10 (da_yReg0 hb (br_t rfl hp))))))⟩
        · rcases da_ix8 c with hc | ⟨l, hl, rfl⟩
          · exact ⟨0, Or.inl rfl, fun post hp => da_X60 k k4 _ _ _ _ (da_xReg1 hi (br_f da_n10 (da_xReg1 hj (br_f da_n10 (da_xReg0 hc (br_t rfl hp)))))),
              fun post _ _ _ _ _ _ _ _ hp => br_f n0 (br_t l10 (br_f n4 (da_yReg1 hi (br_f da_n10 (da_yReg1 hj (br_f da_n10 (da_yReg0 hc (br_t rfl hp))))))))⟩
          · exact ⟨1, Or.inr ⟨rfl, Or.inl ⟨k, i, j, l, k4, hi, hj, hl, rfl, rfl, rfl, rfl⟩⟩, fun post hp => da_X60 k k4 _ _ _ _ (da_xReg1 hi (br_f da_n10 (da_xReg1 hj (br_f da_n10 (da_xReg1 hl (br_f da_n10 hp)))))),
              fun post _ _ _ _ _ _ _ _ hp => br_f n0 (br_t l10 (br_f n4 (da_yReg1 hi (br_f da_n10 (da_yReg1 hj (br_f da_n10 (da_yReg1 hl (br_f da_n10 hp))))))))⟩
    · have p4 : (4 : Int32) < nI k := nI_lt (a := 4) (by omega) (by omega)
      by_cases k7 : k ≤ 7
      · have n7 : ¬ (7 : Int32) < nI k := nI_nlt (a := 7) (by omega) (by decide)
        rcases da_ix8 a with ha | ⟨i, hi, rfl⟩
        · exact ⟨0, Or.inl rfl, fun post hp => da_X87 k (by omega) k7 _ _ _ _ (da_xReg0 ha (br_t rfl hp)),
            fun post _ _ _ _ _ _ _ _ hp => br_f n0 (br_t l10 (br_t p4 (br_f n7 (da_yReg0 ha (br_t rfl hp)))))⟩
        · rcases da_ix8 b with hb | ⟨j, hj, rfl⟩
          · exact ⟨0, Or.inl rfl, fun post hp => da_X87 k (by omega) k7 _ _ _ _ (da_xReg1 hi (br_f da_n10 (da_xReg0 hb (br_t rfl hp)))),
              fun post _ _ _ _ _ _ _ _ hp => br_f n0 (br_t l10 (br_t p4 (br_f n7 (da_yReg1 hi (br_f da_n10 (da_yReg0 hb (br_t rfl hp)))))))⟩
          · exact ⟨1, Or.inr ⟨rfl, Or.inr (Or.inl ⟨k, i, j, by omega, k7, hi, hj, rfl, rfl, rfl⟩)⟩, fun post hp => da_X87 k (by omega) k7 _ _ _ _ (da_xReg1 hi (br_f da_n10 (da_xReg1 hj (br_f da_n10 hp)))),
              fun post _ _ _ _ _ _ _ _ hp => br_f n0 (br_t l10 (br_t p4 (br_f n7 (da_yReg1 hi (br_f da_n10 (da_yReg1 hj (br_f da_n10 hp)))))))⟩
      · have p7 : (7 : Int32) < nI k := nI_lt (a := 7) (by omega) (by omega)
        by_cases k8 : k = 8
        · subst k8
          rcases da_ix8 a with ha | ⟨i, hi, rfl⟩
          · exact ⟨0, Or.inl rfl, fun post hp => da_X8 (da_xReg0 ha (br_t rfl hp)),
              fun post _ _ _ _ _ _ _ _ hp => br_f n0 (br_t l10 (br_t p4 (br_t p7 (br_t rfl (da_yReg0 ha (br_t rfl hp))))))⟩
          · by_cases b1 : b < 1
            · exact ⟨0, Or.inl rfl, fun post hp => da_X8 (da_xReg1 hi (br_f da_n10 (br_t b1 hp))),
                fun post _ _ _ _ _ _ _ _ hp => br_f n0 (br_t l10 (br_t p4 (br_t p7 (br_t rfl (da_yReg1 hi (br_f da_n10 (br_t b1 hp)))))))⟩
            · by_cases b8 : 8 < b
              · exact ⟨0, Or.inl rfl, fun post hp => da_X8 (da_xReg1 hi (br_f da_n10 (br_f b1 (br_t b8 hp)))),
                  fun post _ _ _ _ _ _ _ _ hp => br_f n0 (br_t l10 (br_t p4 (br_t p7 (br_t rfl (da_yReg1 hi (br_f da_n10 (br_f b1 (br_t b8 hp))))))))⟩
              · obtain ⟨j, hj, rfl⟩ := nI_of (x := b) (fun h => b1 (Int32.lt_trans h (by decide)))
                have j1 : 1 ≤ j := by
                  by_cases c : 1 ≤ j
                  · exact c
                  · exact absurd (nI_lt (a := j) (b := 1) (by omega) (by decide)) b1
                have j8 : j ≤ 8 := by
                  by_cases c : j ≤ 8
                  · exact c
                  · exact absurd (nI_lt (a := 8) (b := j) (by omega) hj) b8
                exact ⟨1, Or.inr ⟨rfl, Or.inr (Or.inr (Or.inl ⟨i, j, hi, j1, j8, rfl, rfl, rfl⟩))⟩, fun post hp => da_X8 (da_xReg1 hi (br_f da_n10 (br_f b1 (br_f b8 hp)))),
                  fun post _ _ _ _ _ _ _ _ hp => br_f n0 (br_t l10 (br_t p4 (br_t p7 (br_t rfl (da_yReg1 hi (br_f da_n10 (br_f b1 (br_f b8 hp))))))))⟩
        · by_cases k9 : k = 9
          · subst k9
            by_cases a1 : a < 1
            · exact ⟨0, Or.inl rfl, fun post hp => da_X9 (br_t a1 hp),
                fun post _ _ _ _ _ _ _ _ hp => br_f n0 (br_t l10 (br_t p4 (br_t p7 (br_f (by decide) (br_f (by decide) (br_t a1 hp))))))⟩
            · by_cases a6 : 6 < a
              · exact ⟨0, Or.inl rfl, fun post hp => da_X9 (br_f a1 (br_t a6 hp)),
                  fun post _ _ _ _ _ _ _ _ hp => br_f n0 (br_t l10 (br_t p4 (br_t p7 (br_f (by decide) (br_f (by decide) (br_f a1 (br_t a6 hp)))))))⟩
              · obtain ⟨j, hj, rfl⟩ := nI_of (x := a) (fun h => a1 (Int32.lt_trans h (by decide)))
                have j1 : 1 ≤ j := by
                  by_cases c : 1 ≤ j
                  · exact c
                  · exact absurd (nI_lt (a := j) (b := 1) (by omega) (by decide)) a1
                have j6 : j ≤ 6 := by
                  by_cases c : j ≤ 6
                  · exact c
                  · exact absurd (nI_lt (a := 6) (b := j) (by omega) hj) a6
                exact ⟨1, Or.inr ⟨rfl, Or.inr (Or.inr (Or.inr (Or.inl ⟨j, j1, j6, rfl, rfl⟩)))⟩, fun post hp => da_X9 (br_f a1 (br_f a6 hp)),
                  fun post _ _ _ _ _ _ _ _ hp => br_f n0 (br_t l10 (br_t p4 (br_t p7 (br_f (by decide) (br_f (by decide) (br_f a1 (br_f a6 hp)))))))⟩
          · have e : k = 10 := by omega
            subst e
            exact ⟨1, Or.inr ⟨rfl, Or.inr (Or.inr (Or.inr (Or.inr rfl)))⟩, fun post hp => da_X10 hp,
              fun post _ _ _ _ _ _ _ _ hp => br_f n0 (br_t l10 (br_t p4 (br_t p7 (br_f (by decide) (br_t rfl hp)))))⟩

theorem da_ok_put {op x y z : Nat → Int32} {n : Nat} {o a b c : Int32} (h : ∀ i, i < n → da_ok op x y z i) (hv : da_okv o a b c) :
    ∀ i, i < n + 1 → da_ok (upd op n o) (upd x n a) (upd y n b) (upd z n c) i := by
  intro i hi
  by_cases e : i = n
  · unfold da_ok
    rw [e, pk_us, pk_us, pk_us, pk_us]; exact hv
  · unfold da_ok
    rw [pk_un e, pk_un e, pk_un e, pk_un e]; exact h i (by omega)

theorem i_vc_emit {k : Nat} {u : SX} {v : SY} (I : i_Rel k u v) (hk : k + 5 ≤ 2562) (v1 : Int32) (v2 : Int32) (v3 : Int32) (v4 : Int32) : wpX_emit (fun r u' => wpY_emit (fun r' v' => r' = r ∧ i_Rel (k + 5) u' v') v v1 v2 v3 v4) u v1 v2 v3 v4 := by
  obtain ⟨dq, lt, n, rs, bu, cy, ex, oh, oc, sh, sc, op, x, y, z, rg, ce, ar, ps, on, ls, pl, ov, oa, sl, lf, h1, h2, h3, h4, h5, h6, rfl, rfl⟩ := I
  by_cases c : n = 24
  · subst c
    exact br_f (by decide) (br_t rfl ⟨rfl, da_Rel _ h1 h2 h3 h4 h5 h6⟩)
  · have c1 : nI n < 24 := nI_lt (b := 24) (by omega) (by decide)
    have c2 : ¬ nI n = 24 := fun e => c ((nI_eq (b := 24) (by omega) (by decide)).mp e)
    have hi : vp_in (nI n) 24 := vp_in_nI (by omega) (by decide)
    obtain ⟨r, hr, hX, hY⟩ := da_ins v1 v2 v3 v4
    refine br_t c1 (hX _ ?_)
    rcases hr with rfl | ⟨rfl, hv⟩
    · exact br_t rfl (br_f c2 (hY _ _ _ _ _ _ _ _ _ (br_t rfl ⟨rfl, da_Rel _ h1 h2 h3 h4 h5 h6⟩)))
    · have hn : (nI n).toNatClampNeg = n := nI_clamp (by omega)
      refine br_f da_n10 ⟨hi, nm_r (congrArg (fun t => upd op t v1) hn) ⟨hi, nm_r (congrArg (fun t => upd x t v2) hn) ⟨hi, nm_r (congrArg (fun t => upd y t v3) hn) ⟨hi, nm_r (congrArg (fun t => upd z t v4) hn) (nm_r (nI_1 n) ?_)⟩⟩⟩⟩
      refine br_f c2 (hY _ _ _ _ _ _ _ _ _ (br_f da_n10 ⟨hi, nm_r (congrArg (fun t => upd op t v1) hn) ⟨hi, nm_r (congrArg (fun t => upd x t v2) hn) ⟨hi, nm_r (congrArg (fun t => upd y t v3) hn) ⟨hi, nm_r (congrArg (fun t => upd z t v4) hn) (nm_r (nI_1 n) ?_)⟩⟩⟩⟩))
      exact ⟨rfl, da_Rel _ h1 h2 h3 h4 (by omega) (da_ok_put h6 hv)⟩
theorem i_vc_retract {k : Nat} {u : SX} {v : SY} (I : i_Rel k u v) (hk : k + 5 ≤ 2562) : wpX_retract (fun r u' => wpY_retract (fun r' v' => r' = r ∧ i_Rel (k + 5) u' v') v) u := by
  obtain ⟨dq, lt, n, rs, bu, cy, ex, oh, oc, sh, sc, op, x, y, z, rg, ce, ar, ps, on, ls, pl, ov, oa, sl, lf, h1, h2, h3, h4, h5, h6, rfl, rfl⟩ := I
  cases n with
  | zero => exact br_t rfl (br_t rfl ⟨rfl, da_Rel _ h1 h2 h3 h4 h5 h6⟩)
  | succ n =>
    have c : ¬ nI (n + 1) = 0 := nI_ne0 (by omega) (by omega)
    exact br_f c (nm_r (nI_pred n) (br_f c (nm_r (nI_pred n) ⟨rfl, da_Rel _ h1 h2 h3 h4 (by omega) (fun i hi => h6 i (by omega))⟩)))
theorem i_vc_setRegister {k : Nat} {u : SX} {v : SY} (I : i_Rel k u v) (hk : k + 5 ≤ 2562) (v1 : Int32) (v2 : Int32) : wpX_setRegister (fun r u' => wpY_setRegister (fun r' v' => r' = r ∧ i_Rel (k + 5) u' v') v v1 v2) u v1 v2 := by
  obtain ⟨dq, lt, n, rs, bu, cy, ex, oh, oc, sh, sc, op, x, y, z, rg, ce, ar, ps, on, ls, pl, ov, oa, sl, lf, h1, h2, h3, h4, h5, h6, rfl, rfl⟩ := I
  unfold wpX_setRegister wpY_setRegister
  dsimp only
  rcases da_ix8 v1 with h | ⟨j, hj, rfl⟩
  · exact da_xReg0 h (br_t rfl (da_yReg0 h (br_t rfl ⟨rfl, da_Rel _ h1 h2 h3 h4 h5 h6⟩)))
  · have hi : vp_in (nI j) 8 := vp_in_nI hj (by decide)
    exact da_xReg1 hj (br_f da_n10 ⟨hi, nm_e (da_yReg1 hj (br_f da_n10 ⟨hi, nm_e ⟨rfl, da_Rel _ h1 h2 h3 h4 h5 h6⟩⟩))⟩)
theorem da_xCell1 {post : Int32 → Prop} {j : Nat} (hj : j < 16) (hp : post 1) : wpX_isCell post (nI j) :=
  br_f (nI_pos (by omega)) (br_f (nI_ge (b := 16) hj (by decide)) hp)
theorem da_xCell0 {post : Int32 → Prop} {v : Int32} (h : v < 0 ∨ nI 16 ≤ v) (hp : post 0) : wpX_isCell post v := by
  by_cases c : v < 0
  · exact br_t c hp
  · exact br_f c (br_t (h.resolve_left c) hp)
theorem da_ix16 (v : Int32) : (v < 0 ∨ nI 16 ≤ v) ∨ ∃ j : Nat, j < 16 ∧ v = nI j := by
  rcases pk_ix v (n := 16) (by decide) with h | h | h
  · exact Or.inl (Or.inl h)
  · exact Or.inl (Or.inr h)
  · exact Or.inr h
theorem i_vc_setMemory {k : Nat} {u : SX} {v : SY} (I : i_Rel k u v) (hk : k + 5 ≤ 2562) (v1 : Int32) (v2 : Int32) : wpX_setMemory (fun r u' => wpY_setMemory (fun r' v' => r' = r ∧ i_Rel (k + 5) u' v') v v1 v2) u v1 v2 := by
  obtain ⟨dq, lt, n, rs, bu, cy, ex, oh, oc, sh, sc, op, x, y, z, rg, ce, ar, ps, on, ls, pl, ov, oa, sl, lf, h1, h2, h3, h4, h5, h6, rfl, rfl⟩ := I
  unfold wpX_setMemory wpY_setMemory
  dsimp only
  rcases da_ix16 v1 with h | ⟨j, hj, rfl⟩
  · refine da_xCell0 h (br_t rfl ?_)
    by_cases c : v1 < 0
    · exact br_t c ⟨rfl, da_Rel _ h1 h2 h3 h4 h5 h6⟩
    · have h16 : (16 : Int32) ≤ v1 := h.resolve_left c
      exact br_f c (br_f (Int32.not_le.mpr (Int32.lt_of_lt_of_le (by decide) h16)) ⟨rfl, da_Rel _ h1 h2 h3 h4 h5 h6⟩)
  · have hi : vp_in (nI j) 16 := vp_in_nI hj (by decide)
    exact da_xCell1 hj (br_f da_n10 ⟨hi, nm_e (br_f (nI_pos (by omega)) (br_t (nI_le (b := 15) (by omega) (by decide)) ⟨hi, nm_e ⟨rfl, da_Rel _ h1 h2 h3 h4 h5 h6⟩⟩))⟩)
theorem i_vc_register {k : Nat} {u : SX} {v : SY} (I : i_Rel k u v) (hk : k + 5 ≤ 2562) (v1 : Int32) : wpX_register (fun r => wpY_register (fun r' => r' = r ∧ i_Rel (k + 5) u v) v v1) u v1 := by
  obtain ⟨dq, lt, n, rs, bu, cy, ex, oh, oc, sh, sc, op, x, y, z, rg, ce, ar, ps, on, ls, pl, ov, oa, sl, lf, h1, h2, h3, h4, h5, h6, rfl, rfl⟩ := I
  unfold wpX_register wpY_register
  dsimp only
  rcases da_ix8 v1 with h | ⟨j, hj, rfl⟩
  · exact da_xReg0 h (br_t rfl (da_yReg0 h (br_t rfl ⟨rfl, da_Rel _ h1 h2 h3 h4 h5 h6⟩)))
  · have hi : vp_in (nI j) 8 := vp_in_nI hj (by decide)
    exact da_xReg1 hj (br_f da_n10 ⟨hi, da_yReg1 hj (br_f da_n10 ⟨hi, rfl, da_Rel _ h1 h2 h3 h4 h5 h6⟩)⟩)
theorem i_vc_memory {k : Nat} {u : SX} {v : SY} (I : i_Rel k u v) (hk : k + 5 ≤ 2562) (v1 : Int32) : wpX_memory (fun r => wpY_memory (fun r' => r' = r ∧ i_Rel (k + 5) u v) v v1) u v1 := by
  obtain ⟨dq, lt, n, rs, bu, cy, ex, oh, oc, sh, sc, op, x, y, z, rg, ce, ar, ps, on, ls, pl, ov, oa, sl, lf, h1, h2, h3, h4, h5, h6, rfl, rfl⟩ := I
  unfold wpX_memory wpY_memory
  dsimp only
  rcases da_ix16 v1 with h | ⟨j, hj, rfl⟩
  · refine da_xCell0 h (br_t rfl ?_)
    by_cases c : v1 < 0
    · exact br_t c ⟨rfl, da_Rel _ h1 h2 h3 h4 h5 h6⟩
    · have h16 : (16 : Int32) ≤ v1 := h.resolve_left c
      exact br_f c (br_t (Int32.lt_of_lt_of_le (by decide) h16) ⟨rfl, da_Rel _ h1 h2 h3 h4 h5 h6⟩)
  · have hi : vp_in (nI j) 16 := vp_in_nI hj (by decide)
    exact da_xCell1 hj (br_f da_n10 ⟨hi, br_f (nI_pos (by omega)) (br_f (nI_nlt (a := 15) (by omega) (by decide)) ⟨hi, rfl, da_Rel _ h1 h2 h3 h4 h5 h6⟩)⟩)

/- clear -/
def da_zs : Nat → Nat → (Nat → Int32) → (Nat → Int32)
  | 0, _, g => g
  | d + 1, i, g => da_zs d (i + 1) (upd g i 0)
theorem da_xcl2 {post : SX → Prop} {qd ll ln rs bu cy ex oh oc sh sc : Int32} {op x y z rg ar ps on ls pl ov oa sl : Nat → Int32} : ∀ (d i : Nat) (g : Nat → Int32), i + d = 16 → post (qd, ll, ln, rs, bu, cy, ex, oh, oc, sh, sc, op, x, y, z, rg, (da_zs d i g), ar, ps, on, ls, pl, ov, oa, sl) →
    wX_clear_28 post qd ll ln rs bu cy ex oh oc sh sc (d + 1) (nI i) op x y z rg g ar ps on ls pl ov oa sl := by
  intro d
  induction d with
  | zero => intro i g h hp; exact br_t (nI_le (a := 16) (by omega) (by omega)) hp
  | succ d ih =>
    intro i g h hp
    exact br_f (nI_ge (b := 16) (by omega) (by decide)) ⟨vp_in_nI (by omega) (by decide), nm_r (congrArg (fun t => upd g t 0) (nI_clamp (n := i) (by omega))) (nm_r (nI_1 i) (ih (i + 1) _ (by omega) hp))⟩
theorem da_xcl1 {post : SX → Prop} {qd ll ln rs bu cy ex oh oc sh sc : Int32} {op x y z ce ar ps on ls pl ov oa sl : Nat → Int32} : ∀ (d i : Nat) (g : Nat → Int32), i + d = 8 → post (qd, ll, ln, rs, bu, cy, ex, oh, oc, sh, sc, op, x, y, z, (da_zs d i g), (da_zs 16 0 ce), ar, ps, on, ls, pl, ov, oa, sl) →
    wX_clear_7 post qd ll ln rs bu cy ex oh oc sh sc (d + 1) (nI i) op x y z g ce ar ps on ls pl ov oa sl := by
  intro d
  induction d with
  | zero => intro i g h hp; exact br_t (nI_le (a := 8) (by omega) (by omega)) ⟨_, da_xcl2 16 0 ce rfl hp⟩
  | succ d ih =>
    intro i g h hp
    exact br_f (nI_ge (b := 8) (by omega) (by decide)) ⟨vp_in_nI (by omega) (by decide), nm_r (congrArg (fun t => upd g t 0) (nI_clamp (n := i) (by omega))) (nm_r (nI_1 i) (ih (i + 1) _ (by omega) hp))⟩
theorem da_ycl2 {post : SY → Prop} {yn : Int32} {op x y z rg lf : Nat → Int32} : ∀ (d i : Nat) (g : Nat → Int32), i + d = 16 → post (yn, op, x, y, z, rg, (da_zs d i g), lf) →
    wY_clear_28 post yn (d + 1) (nI i) op x y z rg g lf := by
  intro d
  induction d with
  | zero => intro i g h hp; exact br_t (nI_le (a := 16) (by omega) (by omega)) hp
  | succ d ih =>
    intro i g h hp
    exact br_f (nI_ge (b := 16) (by omega) (by decide)) ⟨vp_in_nI (by omega) (by decide), nm_r (congrArg (fun t => upd g t 0) (nI_clamp (n := i) (by omega))) (nm_r (nI_1 i) (ih (i + 1) _ (by omega) hp))⟩
theorem da_ycl1 {post : SY → Prop} {yn : Int32} {op x y z ce lf : Nat → Int32} : ∀ (d i : Nat) (g : Nat → Int32), i + d = 8 → post (yn, op, x, y, z, (da_zs d i g), (da_zs 16 0 ce), lf) →
    wY_clear_7 post yn (d + 1) (nI i) op x y z g ce lf := by
  intro d
  induction d with
  | zero => intro i g h hp; exact br_t (nI_le (a := 8) (by omega) (by omega)) ⟨_, da_ycl2 16 0 ce rfl hp⟩
  | succ d ih =>
    intro i g h hp
    exact br_f (nI_ge (b := 8) (by omega) (by decide)) ⟨vp_in_nI (by omega) (by decide), nm_r (congrArg (fun t => upd g t 0) (nI_clamp (n := i) (by omega))) (nm_r (nI_1 i) (ih (i + 1) _ (by omega) hp))⟩
theorem i_vc_clear {k : Nat} {u : SX} {v : SY} (I : i_Rel k u v) (hk : k + 5 ≤ 2562) : wpX_clear (fun u' => wpY_clear (fun v' => i_Rel (k + 5) u' v') v) u := by
  obtain ⟨dq, lt, n, rs, bu, cy, ex, oh, oc, sh, sc, op, x, y, z, rg, ce, ar, ps, on, ls, pl, ov, oa, sl, lf, h1, h2, h3, h4, h5, h6, rfl, rfl⟩ := I
  exact ⟨_, da_xcl1 8 0 rg rfl ⟨_, da_ycl1 8 0 rg rfl (da_Rel _ (n := 0) h1 h2 h3 h4 (Nat.zero_le _) (fun i hi => absurd hi (Nat.not_lt_zero i)))⟩⟩
