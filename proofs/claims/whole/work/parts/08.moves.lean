/-! The moves of the halves -/
def da_RA (sd : Nat → Bool) (ar R : Nat → Int32) : Prop := ∀ r, r < 8 → sd r = true → ar r = R r
theorem da_RA_u {sd : Nat → Bool} {ar R : Nat → Int32} {k : Nat} {v : Int32} (h : da_RA sd ar R) : da_RA sd (upd ar k v) (upd R k v) := by
  intro r hr hs
  by_cases e : r = k
  · rw [e, pk_us, pk_us]
  · rw [pk_un e, pk_un e]; exact h r hr hs
theorem da_RA_n {sd : Nat → Bool} {ar R : Nat → Int32} {k : Nat} {v : Int32} (hk : sd k = false) (h : da_RA sd ar R) : da_RA sd ar (upd R k v) := by
  intro r hr hs
  have e : r ≠ k := by
    intro e
    rw [e, hk] at hs
    exact absurd hs (by decide)
  rw [pk_un e]; exact h r hr hs
section
variable (op x y z : Nat → Int32)
theorem da_nd_f {sd : Nat → Bool} {i : Nat} (h6 : ¬ op i ≤ 6) (h8 : ¬ op i = 8) : da_nd op x sd i = false := by
  have h : ¬ op i = 6 := fun e => h6 (by rw [e]; decide)
  unfold da_nd
  rw [decide_eq_false h, decide_eq_false h8, decide_eq_false h6]; rfl
theorem da_nd_6 {sd : Nat → Bool} {i : Nat} (h : op i = 6) : da_nd op x sd i = true := by
  unfold da_nd
  rw [decide_eq_true h]; rfl
theorem da_nd_8 {sd : Nat → Bool} {i : Nat} (h : op i = 8) : da_nd op x sd i = true := by
  unfold da_nd
  rw [decide_eq_true h, Bool.or_true]; rfl
theorem da_nd_t {sd : Nat → Bool} {i : Nat} (h : op i ≤ 6) (h6 : ¬ op i = 6) : da_nd op x sd i = sd (x i).toNatClampNeg := by
  have h8 : ¬ op i = 8 := fun e => absurd h (by rw [e]; decide)
  unfold da_nd
  rw [decide_eq_false h6, decide_eq_false h8, decide_eq_true h]
  simp
theorem da_fo_n {sd : Nat → Bool} {tr : Nat → da_St} {k : Nat} (h : da_nd op x sd (tr k).1 = false) : da_fo op x y z sd tr k = [] := by
  unfold da_fo; rw [h]; rfl
theorem da_fo_y {sd : Nat → Bool} {tr : Nat → da_St} {k : Nat} (h : da_nd op x sd (tr k).1 = true) : da_fo op x y z sd tr k = [da_ov op x y z (tr k)] := by
  unfold da_fo; rw [if_pos h]
theorem da_fc_n {tr : Nat → da_St} {k : Nat} (h : ¬ op (tr k).1 = 7) : da_fc op y z tr k = [] := by
  unfold da_fc; rw [if_neg h]
theorem da_fc_y {tr : Nat → da_St} {k : Nat} (h : op (tr k).1 = 7) : da_fc op y z tr k = [da_cl y z (tr k).1 (tr k).2.1] := by
  unfold da_fc; rw [if_pos h]
theorem da_ov_8 {s : da_St} (h : op s.1 = 8) : da_ov op x y z s = if s.2.1 (x s.1).toNatClampNeg = 0 then y s.1 else 0 := by
  unfold da_ov; rw [if_pos h]
theorem da_ov_t {s : da_St} (h : ¬ op s.1 = 8) : da_ov op x y z s = da_tv op y z s.1 s.2.1 s.2.2.1 := by
  unfold da_ov; rw [if_neg h]

/-- the whole: execute at index e, access at index a, cycle c -/
def da_V (sd : Nat → Bool) (tr : Nat → da_St) (dq e a c H : Nat) (As : List Nat) (B Hs : Nat) (bu ex oh oc sh sc : Int32) (rg ce ar ps on ls pl ov oa sl : Nat → Int32) : Prop :=
  ex = nI e ∧ rg = (tr e).2.1 ∧ ce = (tr e).2.2.1 ∧ da_IH op (tr e) 1 ps on ls pl ∧ da_IH op (tr a) 0 ps on ls pl ∧ da_RA sd ar (tr a).2.1 ∧
  da_IO op x y z sd tr dq e a c H As B oh oc bu ov oa ∧ da_IS op y z tr dq e a Hs sh sc sl

/-- what is fixed during a run -/
def da_F (n K m : Nat) (sd : Nat → Bool) (tr : Nat → da_St) : Prop :=
  da_G op x y z n ∧ (∀ k, tr (k + 1) = da_st op x y z (tr k)) ∧ (∀ k, k < K → (tr k).1 < n) ∧ (tr K).1 = n ∧ (∀ k, k ≤ K → da_I op n (tr k)) ∧
  da_C op x y z n m ∧ m < 256 ∧ (∀ r, sd r = m.testBit r) ∧
  (∀ (c : Int32), (∃ j : Nat, j < 16 ∧ c = nI j) → ∀ q k, ¬ c ∈ da_ls (da_fc op y z tr) q k → (tr (k + q)).2.2.1 c.toNatClampNeg = (tr k).2.2.1 c.toNatClampNeg)

variable {n K m : Nat} {tr : Nat → da_St}

theorem da_F_len {sd : Nat → Bool} (F : da_F op x y z n K m sd tr) {k : Nat} (hk : k ≤ K) : (da_enc op (tr k).1).length ≤ 2 := by
  obtain ⟨G, _, _, _, hI, _⟩ := F
  exact G.2.2.1 _ (hI k hk).1

/- execute -/
theorem da_E_7 {sd : Nat → Bool} {dq e a c H : Nat} {As : List Nat} {B Hs : Nat} {bu ex oh oc sh sc : Int32} {rg ce ar ps on ls pl ov oa sl : Nat → Int32} (F : da_F op x y z n K m sd tr) (he : e < K) (hea : e < a) (h7 : op (tr e).1 = 7) (V : da_V op x y z sd tr dq e a c H As B Hs bu ex oh oc sh sc rg ce ar ps on ls pl ov oa sl) :
    ∃ k : Nat, sl (Hs % 4) = da_cl y z (tr e).1 rg ∧ sc = nI (k + 1) ∧ k < dq ∧
      da_V op x y z sd tr dq (e + 1) a c H As B (Hs + 1) bu (nI (e + 1)) oh oc (nI ((Hs + 1) % 4)) (nI k) rg (upd ce (da_cl y z (tr e).1 rg).toNatClampNeg (rg (x (tr e).1).toNatClampNeg)) ar (upd ps 1 (nI ((tr e).1 + 1))) on ls pl ov oa sl := by
  obtain ⟨G, ht, _⟩ := F
  obtain ⟨v1, v2, v3, v4, v5, v6, v7, v8⟩ := V
  obtain ⟨k, s1, s2, s3, s4⟩ := da_IS_t op y z (da_fc_y op y z h7) hea v8
  have e1 := da_enc_7 op x y z h7
  have e2 : tr (e + 1) = _ := (ht e).trans (da_st_7 op x y z h7)
  refine ⟨k, by rw [v2]; exact s1, s2, s3, rfl, by rw [e2]; exact v2, by rw [e2, v2, v3], ?_, da_IH_o op (by decide) v5, v6, ?_, s4⟩
  · have := da_IH_adv op (s' := tr (e + 1)) (by rw [ht]; exact e1.1) (by rw [ht]; exact e1.2) v4
    rw [show (tr (e + 1)).1 = (tr e).1 + 1 by rw [e2]] at this
    exact this
  · exact da_IO_e op x y z (da_fo_n op x y z (da_nd_f op x (by rw [h7]; decide) (by rw [h7]; decide))) v7
theorem da_E_8 {sd : Nat → Bool} {dq e a c H : Nat} {As : List Nat} {B Hs : Nat} {bu ex oh oc sh sc : Int32} {rg ce ar ps on ls pl ov oa sl : Nat → Int32} (F : da_F op x y z n K m sd tr) (he : e < K) (hea : e < a) (h8 : op (tr e).1 = 8) (V : da_V op x y z sd tr dq e a c H As B Hs bu ex oh oc sh sc rg ce ar ps on ls pl ov oa sl) :
    ∃ (t : Nat) (As' : List Nat), As = t :: As' ∧ oa (H % 4) = nI t ∧ ov (H % 4) = (if rg (x (tr e).1).toNatClampNeg = 0 then y (tr e).1 else 0) ∧ oc = nI (As'.length + 1) ∧ As'.length < dq ∧
      (t ≤ c → da_V op x y z sd tr dq (e + 1) a c (H + 1) As' B Hs bu (nI (e + 1)) (nI ((H + 1) % 4)) (nI As'.length) sh sc rg ce ar (upd ps 1 (nI (tr (e + 1)).1)) on ls pl ov oa sl) := by
  obtain ⟨G, ht, hlt, _⟩ := F
  obtain ⟨v1, v2, v3, v4, v5, v6, v7, v8⟩ := V
  obtain ⟨t, As', s1, s2, s3, s4, s5, s6⟩ := da_IO_t op x y z (da_fo_y op x y z (da_nd_8 op x h8)) hea v7
  rw [da_ov_8 op x y z h8] at s3
  have e1 := da_enc_8 op x y z G (hlt e he) h8
  have e2 : tr (e + 1) = _ := (ht e).trans (da_st_8 op x y z h8)
  refine ⟨t, As', s1, s2, by rw [v2]; exact s3, s4, s5, fun hc => ⟨rfl, by rw [e2]; exact v2, by rw [e2]; exact v3, ?_, da_IH_o op (by decide) v5, v6, s6 hc, ?_⟩⟩
  · exact da_IH_adv op (s' := tr (e + 1)) (by rw [ht]; exact e1.1) (by rw [ht]; exact e1.2) v4
  · exact da_IS_e op y z (da_fc_n op y z (by rw [h8]; decide)) v8
theorem da_E_tn {sd : Nat → Bool} {dq e a c H : Nat} {As : List Nat} {B Hs : Nat} {bu ex oh oc sh sc : Int32} {rg ce ar ps on ls pl ov oa sl : Nat → Int32} (F : da_F op x y z n K m sd tr) (he : e < K) (hea : e < a) (k : da_kT op x y z (tr e).1) (hn : da_nd op x sd (tr e).1 = true) (V : da_V op x y z sd tr dq e a c H As B Hs bu ex oh oc sh sc rg ce ar ps on ls pl ov oa sl) :
    ∃ (t : Nat) (As' : List Nat), As = t :: As' ∧ oa (H % 4) = nI t ∧ oc = nI (As'.length + 1) ∧ As'.length < dq ∧
      (t ≤ c → da_V op x y z sd tr dq (e + 1) a c (H + 1) As' B Hs bu (nI (e + 1)) (nI ((H + 1) % 4)) (nI As'.length) sh sc (upd rg (x (tr e).1).toNatClampNeg (ov (H % 4))) ce ar (upd ps 1 (nI ((tr e).1 + 1))) on ls pl ov oa sl) := by
  obtain ⟨G, ht, hlt, _⟩ := F
  obtain ⟨v1, v2, v3, v4, v5, v6, v7, v8⟩ := V
  obtain ⟨_, h7, h8, h9, h10, _⟩ := k
  obtain ⟨t, As', s1, s2, s3, s4, s5, s6⟩ := da_IO_t op x y z (da_fo_y op x y z hn) hea v7
  rw [da_ov_t op x y z h8] at s3
  have e1 := da_enc_t op x y z h7 h8 h9 h10
  have e2 : tr (e + 1) = _ := (ht e).trans (da_st_t op x y z h7 h8 h9 h10)
  refine ⟨t, As', s1, s2, s4, s5, fun hc => ⟨rfl, by rw [e2, s3, v2], by rw [e2]; exact v3, ?_, da_IH_o op (by decide) v5, v6, s6 hc, ?_⟩⟩
  · have := da_IH_adv op (s' := tr (e + 1)) (by rw [ht]; exact e1.1) (by rw [ht]; exact e1.2) v4
    rw [show (tr (e + 1)).1 = (tr e).1 + 1 by rw [e2]] at this
    exact this
  · exact da_IS_e op y z (da_fc_n op y z h7) v8
theorem da_E_tf {sd : Nat → Bool} {dq e a c H : Nat} {As : List Nat} {B Hs : Nat} {bu ex oh oc sh sc : Int32} {rg ce ar ps on ls pl ov oa sl : Nat → Int32} (F : da_F op x y z n K m sd tr) (he : e < K) (k : da_kT op x y z (tr e).1) (hn : da_nd op x sd (tr e).1 = false) (V : da_V op x y z sd tr dq e a c H As B Hs bu ex oh oc sh sc rg ce ar ps on ls pl ov oa sl) :
    da_V op x y z sd tr dq (e + 1) a c H As B Hs bu (nI (e + 1)) oh oc sh sc (upd rg (x (tr e).1).toNatClampNeg (da_tv op y z (tr e).1 rg ce)) ce ar (upd ps 1 (nI ((tr e).1 + 1))) on ls pl ov oa sl := by
  obtain ⟨G, ht, hlt, _⟩ := F
  obtain ⟨v1, v2, v3, v4, v5, v6, v7, v8⟩ := V
  obtain ⟨_, h7, h8, h9, h10, _⟩ := k
  have e1 := da_enc_t op x y z h7 h8 h9 h10
  have e2 : tr (e + 1) = _ := (ht e).trans (da_st_t op x y z h7 h8 h9 h10)
  refine ⟨rfl, by rw [e2, v2, v3], by rw [e2]; exact v3, ?_, da_IH_o op (by decide) v5, v6, ?_, ?_⟩
  · have := da_IH_adv op (s' := tr (e + 1)) (by rw [ht]; exact e1.1) (by rw [ht]; exact e1.2) v4
    rw [show (tr (e + 1)).1 = (tr e).1 + 1 by rw [e2]] at this
    exact this
  · exact da_IO_e op x y z (da_fo_n op x y z hn) v7
  · exact da_IS_e op y z (da_fc_n op y z h7) v8
theorem da_E_9 {sd : Nat → Bool} {dq e a c H : Nat} {As : List Nat} {B Hs : Nat} {bu ex oh oc sh sc : Int32} {rg ce ar ps on ls pl ov oa sl : Nat → Int32} (F : da_F op x y z n K m sd tr) (he : e < K) (ha : a ≤ K) (h9 : op (tr e).1 = 9) (hd : (da_enc op (tr e).1).length < 2) (V : da_V op x y z sd tr dq e a c H As B Hs bu ex oh oc sh sc rg ce ar ps on ls pl ov oa sl) :
    da_V op x y z sd tr dq (e + 1) a c H As B Hs bu (nI (e + 1)) oh oc sh sc rg ce ar (upd ps 1 (nI ((tr e).1 + 1))) (upd on 1 (nI ((da_enc op (tr e).1).length + 1))) (upd ls (2 * 1 + (da_enc op (tr e).1).length) (nI ((tr e).1 + 1))) (upd pl (2 * 1 + (da_enc op (tr e).1).length) (x (tr e).1)) ov oa sl := by
  have hla := da_F_len op x y z F ha
  obtain ⟨G, ht, hlt, _⟩ := F
  obtain ⟨v1, v2, v3, v4, v5, v6, v7, v8⟩ := V
  have e2 : tr (e + 1) = _ := (ht e).trans (da_st_9 op x y z h9)
  refine ⟨rfl, by rw [e2]; exact v2, by rw [e2]; exact v3, ?_, ?_, v6, ?_, ?_⟩
  · rw [ht]; exact da_IH_9 op x y z h9 v4
  · exact da_IH_o op (by decide) (da_IH_on op (by decide) (da_IH_sto op (h := 1) hla (by decide) (by omega) (by omega) v5))
  · exact da_IO_e op x y z (da_fo_n op x y z (da_nd_f op x (by rw [h9]; decide) (by rw [h9]; decide))) v7
  · exact da_IS_e op y z (da_fc_n op y z (by rw [h9]; decide)) v8
theorem da_E_10b {sd : Nat → Bool} {dq e a c H : Nat} {As : List Nat} {B Hs : Nat} {bu ex oh oc sh sc : Int32} {rg ce ar ps on ls pl ov oa sl : Nat → Int32} (F : da_F op x y z n K m sd tr) (he : e < K) (ha : a ≤ K) (h10 : op (tr e).1 = 10) {b p : Nat} {st : List Nat} (hs : da_enc op (tr e).1 = b :: st) (hp : (tr e).2.2.2 b = nI p) (hp6 : p ≤ 6) (hp1 : 2 ≤ p) (V : da_V op x y z sd tr dq e a c H As B Hs bu ex oh oc sh sc rg ce ar ps on ls pl ov oa sl) :
    da_V op x y z sd tr dq (e + 1) a c H As B Hs bu (nI (e + 1)) oh oc sh sc rg ce ar (upd ps 1 (nI (b + 1))) on ls (upd pl (2 * 1 + st.length) (nI (p - 1))) ov oa sl := by
  have hla := da_F_len op x y z F ha
  have hle := da_F_len op x y z F (Nat.le_of_lt he)
  rw [hs, List.length_cons] at hle
  obtain ⟨G, ht, hlt, _⟩ := F
  obtain ⟨v1, v2, v3, v4, v5, v6, v7, v8⟩ := V
  have e2 : tr (e + 1) = _ := (ht e).trans (da_st_10 op x y z h10 hs)
  refine ⟨rfl, by rw [e2]; exact v2, by rw [e2]; exact v3, ?_, ?_, v6, ?_, ?_⟩
  · rw [ht]; exact da_IH_10b op x y z h10 hs hp hp6 hp1 v4
  · exact da_IH_o op (by decide) (da_IH_stp op (h := 1) hla (by decide) (by omega) (by omega) v5)
  · exact da_IO_e op x y z (da_fo_n op x y z (da_nd_f op x (by rw [h10]; decide) (by rw [h10]; decide))) v7
  · exact da_IS_e op y z (da_fc_n op y z (by rw [h10]; decide)) v8
theorem da_E_10p {sd : Nat → Bool} {dq e a c H : Nat} {As : List Nat} {B Hs : Nat} {bu ex oh oc sh sc : Int32} {rg ce ar ps on ls pl ov oa sl : Nat → Int32} (F : da_F op x y z n K m sd tr) (he : e < K) (ha : a ≤ K) (h10 : op (tr e).1 = 10) {b p : Nat} {st : List Nat} (hs : da_enc op (tr e).1 = b :: st) (hp : (tr e).2.2.2 b = nI p) (hp1 : p = 1) (V : da_V op x y z sd tr dq e a c H As B Hs bu ex oh oc sh sc rg ce ar ps on ls pl ov oa sl) :
    da_V op x y z sd tr dq (e + 1) a c H As B Hs bu (nI (e + 1)) oh oc sh sc rg ce ar (upd ps 1 (nI ((tr e).1 + 1))) (upd on 1 (nI st.length)) ls (upd pl (2 * 1 + st.length) (nI (p - 1))) ov oa sl := by
  have hla := da_F_len op x y z F ha
  have hle := da_F_len op x y z F (Nat.le_of_lt he)
  rw [hs, List.length_cons] at hle
  obtain ⟨G, ht, hlt, _⟩ := F
  obtain ⟨v1, v2, v3, v4, v5, v6, v7, v8⟩ := V
  have e2 : tr (e + 1) = _ := (ht e).trans (da_st_10 op x y z h10 hs)
  refine ⟨rfl, by rw [e2]; exact v2, by rw [e2]; exact v3, ?_, ?_, v6, ?_, ?_⟩
  · rw [ht]; exact da_IH_10p op x y z h10 hs hp hp1 v4
  · exact da_IH_o op (by decide) (da_IH_on op (by decide) (da_IH_stp op (h := 1) hla (by decide) (by omega) (by omega) v5))
  · exact da_IO_e op x y z (da_fo_n op x y z (da_nd_f op x (by rw [h10]; decide) (by rw [h10]; decide))) v7
  · exact da_IS_e op y z (da_fc_n op y z (by rw [h10]; decide)) v8

/- access -/
theorem da_A_cl {sd : Nat → Bool} {dq e a c H : Nat} {As : List Nat} {B Hs : Nat} {bu ex oh oc sh sc : Int32} {rg ce ar ps on ls pl ov oa sl : Nat → Int32} (F : da_F op x y z n K m sd tr) (ha : a < K) (hk : op (tr a).1 = 6 ∨ op (tr a).1 = 7) (V : da_V op x y z sd tr dq e a c H As B Hs bu ex oh oc sh sc rg ce ar ps on ls pl ov oa sl) : da_cl y z (tr a).1 ar = da_cl y z (tr a).1 (tr a).2.1 := by
  obtain ⟨G, ht, hlt, _, hI, hC, hm, hsd, _⟩ := F
  obtain ⟨v1, v2, v3, v4, v5, v6, v7, v8⟩ := V
  have hy := (hC _ (hlt a ha)).1 hk
  have hb := (da_ok_B op x y z G.2.1 _ (hlt a ha)).1 (by rcases hk with h | h <;> rw [h] <;> decide)
  unfold da_cl
  rw [v6 _ hb (by rw [hsd]; exact hy)]
theorem da_A_7 {sd : Nat → Bool} {dq e a c H : Nat} {As : List Nat} {B Hs : Nat} {bu ex oh oc sh sc : Int32} {rg ce ar ps on ls pl ov oa sl : Nat → Int32} (F : da_F op x y z n K m sd tr) (ha : a < K) (hea : e ≤ a) (hd : dq ≤ 4) (h7 : op (tr a).1 = 7) {q : Nat} (hc : sc = nI q) (hq : q < dq) (V : da_V op x y z sd tr dq e a c H As B Hs bu ex oh oc sh sc rg ce ar ps on ls pl ov oa sl) :
    da_V op x y z sd tr dq e (a + 1) c H As B Hs bu ex oh oc sh (nI (q + 1)) rg ce ar (upd ps 0 (nI ((tr a).1 + 1))) on ls pl ov oa (upd sl ((Hs + q) % 4) (da_cl y z (tr a).1 ar)) := by
  have hcl := da_A_cl op x y z F ha (Or.inr h7) V
  obtain ⟨G, ht, _⟩ := F
  obtain ⟨v1, v2, v3, v4, v5, v6, v7, v8⟩ := V
  have e1 := da_enc_7 op x y z h7
  have e2 : tr (a + 1) = _ := (ht a).trans (da_st_7 op x y z h7)
  refine ⟨v1, v2, v3, da_IH_o op (by decide) v4, ?_, by rw [e2]; exact v6, ?_, ?_⟩
  · have := da_IH_adv op (s' := tr (a + 1)) (by rw [ht]; exact e1.1) (by rw [ht]; exact e1.2) v5
    rw [show (tr (a + 1)).1 = (tr a).1 + 1 by rw [e2]] at this
    exact this
  · exact da_IO_a op x y z (da_fo_n op x y z (da_nd_f op x (by rw [h7]; decide) (by rw [h7]; decide))) v7
  · rw [hcl]; exact da_IS_p op y z hd (da_fc_y op y z h7) hea hc hq v8
theorem da_A_8 {sd : Nat → Bool} {dq e a c H : Nat} {As : List Nat} {B Hs : Nat} {bu ex oh oc sh sc : Int32} {rg ce ar ps on ls pl ov oa sl : Nat → Int32} (F : da_F op x y z n K m sd tr) (ha : a < K) (hea : e ≤ a) (hd : dq ≤ 4) (h8 : op (tr a).1 = 8) {q : Nat} (hc : oc = nI q) (hq : q < dq) (hB : B ≤ c) (V : da_V op x y z sd tr dq e a c H As B Hs bu ex oh oc sh sc rg ce ar ps on ls pl ov oa sl) :
    ar (x (tr a).1).toNatClampNeg = (tr a).2.1 (x (tr a).1).toNatClampNeg ∧
    da_V op x y z sd tr dq e (a + 1) c H (As ++ [c]) B Hs bu ex oh (nI (q + 1)) sh sc rg ce ar (upd ps 0 (nI (tr (a + 1)).1)) on ls pl (upd ov ((H + q) % 4) (if ar (x (tr a).1).toNatClampNeg = 0 then y (tr a).1 else 0)) (upd oa ((H + q) % 4) (nI c)) sl := by
  obtain ⟨G, ht, hlt, _, hI, hC, hm, hsd, _⟩ := F
  obtain ⟨v1, v2, v3, v4, v5, v6, v7, v8⟩ := V
  have e1 := da_enc_8 op x y z G (hlt a ha) h8
  have e2 : tr (a + 1) = _ := (ht a).trans (da_st_8 op x y z h8)
  have hx := (hC _ (hlt a ha)).2.1 h8
  have hb := (da_ok_B op x y z G.2.1 _ (hlt a ha)).2.1 h8
  have hr := v6 _ hb (by rw [hsd]; exact hx)
  refine ⟨hr, v1, v2, v3, da_IH_o op (by decide) v4, ?_, by rw [e2]; exact v6, ?_, ?_⟩
  · exact da_IH_adv op (s' := tr (a + 1)) (by rw [ht]; exact e1.1) (by rw [ht]; exact e1.2) v5
  · rw [hr]
    have hf := da_fo_y op x y z (sd := sd) (tr := tr) (k := a) (da_nd_8 op x h8)
    rw [da_ov_8 op x y z h8] at hf
    have hbu := v7.2.2.2.2.2.2.2.1
    have := da_IO_p op x y z (t := c) (B' := B) hd hf hea hc hq (by omega) (Or.inr hB) v7
    rw [hbu]; exact this
  · exact da_IS_a op y z (da_fc_n op y z (by rw [h8]; decide)) v8
theorem da_A_6v {sd : Nat → Bool} {dq e a c H : Nat} {As : List Nat} {B Hs : Nat} {bu ex oh oc sh sc : Int32} {rg ce ar ps on ls pl ov oa sl : Nat → Int32} (F : da_F op x y z n K m sd tr) (ha : a < K) (hea : e ≤ a) (h6 : op (tr a).1 = 6) (hcl : ¬ da_cl y z (tr a).1 ar ∈ da_ls (da_fc op y z tr) (a - e) e) (V : da_V op x y z sd tr dq e a c H As B Hs bu ex oh oc sh sc rg ce ar ps on ls pl ov oa sl) :
    ce (da_cl y z (tr a).1 ar).toNatClampNeg = da_tv op y z (tr a).1 (tr a).2.1 (tr a).2.2.1 := by
  have hc := da_A_cl op x y z F ha (Or.inl h6) V
  obtain ⟨G, ht, hlt, _, hI, hC, hm, hsd, hM⟩ := F
  obtain ⟨v1, v2, v3, v4, v5, v6, v7, v8⟩ := V
  rw [hc] at hcl
  have := hM _ (da_cl_in y z (tr a).1 (tr a).2.1) _ _ hcl
  rw [show e + (a - e) = a by omega] at this
  rw [hc, v3, ← this]
  unfold da_tv
  rw [if_neg (by rw [h6]; decide), if_pos h6]
theorem da_A_6s {sd : Nat → Bool} {dq e a c H : Nat} {As : List Nat} {B Hs : Nat} {bu ex oh oc sh sc : Int32} {rg ce ar ps on ls pl ov oa sl : Nat → Int32} (F : da_F op x y z n K m sd tr) (ha : a < K) (hea : e ≤ a) (hd : dq ≤ 4) (h6 : op (tr a).1 = 6) {q l : Nat} (hl : l ≤ 6) (hc : oc = nI q) (hq : q < dq)
    (hcl : ¬ da_cl y z (tr a).1 ar ∈ da_ls (da_fc op y z tr) (a - e) e) (hs : sd (x (tr a).1).toNatClampNeg = true) (V : da_V op x y z sd tr dq e a c H As B Hs bu ex oh oc sh sc rg ce ar ps on ls pl ov oa sl) :
    da_V op x y z sd tr dq e (a + 1) c H (As ++ [c + l]) (c + l) Hs (nI (c + l)) ex oh (nI (q + 1)) sh sc rg ce (upd ar (x (tr a).1).toNatClampNeg (ce (da_cl y z (tr a).1 ar).toNatClampNeg)) (upd ps 0 (nI ((tr a).1 + 1))) on ls pl (upd ov ((H + q) % 4) (ce (da_cl y z (tr a).1 ar).toNatClampNeg)) (upd oa ((H + q) % 4) (nI (c + l))) sl := by
  have hv := da_A_6v op x y z F ha hea h6 hcl V
  obtain ⟨G, ht, hlt, _, hI, hC, hm, hsd, _⟩ := F
  obtain ⟨v1, v2, v3, v4, v5, v6, v7, v8⟩ := V
  have h7 : ¬ op (tr a).1 = 7 := by rw [h6]; decide
  have h8 : ¬ op (tr a).1 = 8 := by rw [h6]; decide
  have h9 : ¬ op (tr a).1 = 9 := by rw [h6]; decide
  have h10 : ¬ op (tr a).1 = 10 := by rw [h6]; decide
  have e1 := da_enc_t op x y z h7 h8 h9 h10
  have e2 : tr (a + 1) = _ := (ht a).trans (da_st_t op x y z h7 h8 h9 h10)
  rw [hv]
  refine ⟨v1, v2, v3, da_IH_o op (by decide) v4, ?_, by rw [e2]; exact da_RA_u v6, ?_, ?_⟩
  · have := da_IH_adv op (s' := tr (a + 1)) (by rw [ht]; exact e1.1) (by rw [ht]; exact e1.2) v5
    rw [show (tr (a + 1)).1 = (tr a).1 + 1 by rw [e2]] at this
    exact this
  · have hf := da_fo_y op x y z (sd := sd) (tr := tr) (k := a) (da_nd_6 op x h6)
    rw [da_ov_t op x y z h8] at hf
    exact da_IO_p op x y z (t := c + l) (B' := c + l) hd hf hea hc hq (by omega) (Or.inl rfl) v7
  · exact da_IS_a op y z (da_fc_n op y z h7) v8
theorem da_A_6n {sd : Nat → Bool} {dq e a c H : Nat} {As : List Nat} {B Hs : Nat} {bu ex oh oc sh sc : Int32} {rg ce ar ps on ls pl ov oa sl : Nat → Int32} (F : da_F op x y z n K m sd tr) (ha : a < K) (hea : e ≤ a) (hd : dq ≤ 4) (h6 : op (tr a).1 = 6) {q l : Nat} (hl : l ≤ 6) (hc : oc = nI q) (hq : q < dq) (hB : B ≤ c)
    (hcl : ¬ da_cl y z (tr a).1 ar ∈ da_ls (da_fc op y z tr) (a - e) e) (hs : sd (x (tr a).1).toNatClampNeg = false) (V : da_V op x y z sd tr dq e a c H As B Hs bu ex oh oc sh sc rg ce ar ps on ls pl ov oa sl) :
    da_V op x y z sd tr dq e (a + 1) c H (As ++ [c + l]) B Hs bu ex oh (nI (q + 1)) sh sc rg ce ar (upd ps 0 (nI ((tr a).1 + 1))) on ls pl (upd ov ((H + q) % 4) (ce (da_cl y z (tr a).1 ar).toNatClampNeg)) (upd oa ((H + q) % 4) (nI (c + l))) sl := by
  have hv := da_A_6v op x y z F ha hea h6 hcl V
  obtain ⟨G, ht, hlt, _, hI, hC, hm, hsd, _⟩ := F
  obtain ⟨v1, v2, v3, v4, v5, v6, v7, v8⟩ := V
  have h7 : ¬ op (tr a).1 = 7 := by rw [h6]; decide
  have h8 : ¬ op (tr a).1 = 8 := by rw [h6]; decide
  have h9 : ¬ op (tr a).1 = 9 := by rw [h6]; decide
  have h10 : ¬ op (tr a).1 = 10 := by rw [h6]; decide
  have e1 := da_enc_t op x y z h7 h8 h9 h10
  have e2 : tr (a + 1) = _ := (ht a).trans (da_st_t op x y z h7 h8 h9 h10)
  rw [hv]
  refine ⟨v1, v2, v3, da_IH_o op (by decide) v4, ?_, by rw [e2]; exact da_RA_n hs v6, ?_, ?_⟩
  · have := da_IH_adv op (s' := tr (a + 1)) (by rw [ht]; exact e1.1) (by rw [ht]; exact e1.2) v5
    rw [show (tr (a + 1)).1 = (tr a).1 + 1 by rw [e2]] at this
    exact this
  · have hf := da_fo_y op x y z (sd := sd) (tr := tr) (k := a) (da_nd_6 op x h6)
    rw [da_ov_t op x y z h8] at hf
    have hbu := v7.2.2.2.2.2.2.2.1
    have := da_IO_p op x y z (t := c + l) (B' := B) hd hf hea hc hq (by omega) (Or.inr hB) v7
    rw [hbu]; exact this
  · exact da_IS_a op y z (da_fc_n op y z h7) v8
theorem da_A_tv {sd : Nat → Bool} {dq e a c H : Nat} {As : List Nat} {B Hs : Nat} {bu ex oh oc sh sc : Int32} {rg ce ar ps on ls pl ov oa sl : Nat → Int32} (F : da_F op x y z n K m sd tr) (ha : a < K) (k : da_kT op x y z (tr a).1) (h6 : ¬ op (tr a).1 = 6) (hs : sd (x (tr a).1).toNatClampNeg = true) (V : da_V op x y z sd tr dq e a c H As B Hs bu ex oh oc sh sc rg ce ar ps on ls pl ov oa sl) :
    da_tv op y z (tr a).1 ar ce = da_tv op y z (tr a).1 (tr a).2.1 (tr a).2.2.1 := by
  obtain ⟨G, ht, hlt, _, hI, hC, hm, hsd, _⟩ := F
  obtain ⟨v1, v2, v3, v4, v5, v6, v7, v8⟩ := V
  obtain ⟨k6, _, _, _, _, _, _, k5⟩ := k
  obtain ⟨_, _, c3, c4⟩ := hC _ (hlt a ha)
  obtain ⟨b1, _, b3⟩ := da_ok_B op x y z G.2.1 _ (hlt a ha)
  rw [hsd] at hs
  have hy := v6 _ (b1 (da_67 k6)) (by rw [hsd]; exact c3 k6 hs)
  unfold da_tv
  by_cases h5 : op (tr a).1 = 5
  · rw [if_pos h5, if_pos h5, hy]
  · rw [if_neg h5, if_neg h5, if_neg h6, if_neg h6]
    rcases k5 with h | h | ⟨h4, _⟩
    · exact absurd h h5
    · exact absurd h h6
    · rw [hy, v6 _ (b3 h4) (by rw [hsd]; exact c4 h4 hs)]
theorem da_A_tn {sd : Nat → Bool} {dq e a c H : Nat} {As : List Nat} {B Hs : Nat} {bu ex oh oc sh sc : Int32} {rg ce ar ps on ls pl ov oa sl : Nat → Int32} (F : da_F op x y z n K m sd tr) (ha : a < K) (hea : e ≤ a) (hd : dq ≤ 4) (k : da_kT op x y z (tr a).1) (h6 : ¬ op (tr a).1 = 6) (hs : sd (x (tr a).1).toNatClampNeg = true) {q : Nat} (hc : oc = nI q) (hq : q < dq) (hB : B ≤ c) (V : da_V op x y z sd tr dq e a c H As B Hs bu ex oh oc sh sc rg ce ar ps on ls pl ov oa sl) :
    da_V op x y z sd tr dq e (a + 1) c H (As ++ [c]) B Hs bu ex oh (nI (q + 1)) sh sc rg ce (upd ar (x (tr a).1).toNatClampNeg (da_tv op y z (tr a).1 ar ce)) (upd ps 0 (nI ((tr a).1 + 1))) on ls pl (upd ov ((H + q) % 4) (da_tv op y z (tr a).1 ar ce)) (upd oa ((H + q) % 4) (nI c)) sl := by
  have hv := da_A_tv op x y z F ha k h6 hs V
  obtain ⟨G, ht, hlt, _, hI, hC, hm, hsd, _⟩ := F
  obtain ⟨v1, v2, v3, v4, v5, v6, v7, v8⟩ := V
  obtain ⟨k6, h7, h8, h9, h10, _⟩ := k
  have e1 := da_enc_t op x y z h7 h8 h9 h10
  have e2 : tr (a + 1) = _ := (ht a).trans (da_st_t op x y z h7 h8 h9 h10)
  rw [hv]
  refine ⟨v1, v2, v3, da_IH_o op (by decide) v4, ?_, by rw [e2]; exact da_RA_u v6, ?_, ?_⟩
  · have := da_IH_adv op (s' := tr (a + 1)) (by rw [ht]; exact e1.1) (by rw [ht]; exact e1.2) v5
    rw [show (tr (a + 1)).1 = (tr a).1 + 1 by rw [e2]] at this
    exact this
  · have hf := da_fo_y op x y z (sd := sd) (tr := tr) (k := a) (by rw [da_nd_t op x k6 h6]; exact hs)
    rw [da_ov_t op x y z h8] at hf
    have hbu := v7.2.2.2.2.2.2.2.1
    have := da_IO_p op x y z (t := c) (B' := B) hd hf hea hc hq (by omega) (Or.inr hB) v7
    rw [hbu]; exact this
  · exact da_IS_a op y z (da_fc_n op y z h7) v8
theorem da_A_tf {sd : Nat → Bool} {dq e a c H : Nat} {As : List Nat} {B Hs : Nat} {bu ex oh oc sh sc : Int32} {rg ce ar ps on ls pl ov oa sl : Nat → Int32} (F : da_F op x y z n K m sd tr) (ha : a < K) (k : da_kT op x y z (tr a).1) (h6 : ¬ op (tr a).1 = 6) (hs : sd (x (tr a).1).toNatClampNeg = false) (V : da_V op x y z sd tr dq e a c H As B Hs bu ex oh oc sh sc rg ce ar ps on ls pl ov oa sl) :
    da_V op x y z sd tr dq e (a + 1) c H As B Hs bu ex oh oc sh sc rg ce ar (upd ps 0 (nI ((tr a).1 + 1))) on ls pl ov oa sl := by
  obtain ⟨G, ht, hlt, _, hI, hC, hm, hsd, _⟩ := F
  obtain ⟨v1, v2, v3, v4, v5, v6, v7, v8⟩ := V
  obtain ⟨k6, h7, h8, h9, h10, _⟩ := k
  have e1 := da_enc_t op x y z h7 h8 h9 h10
  have e2 : tr (a + 1) = _ := (ht a).trans (da_st_t op x y z h7 h8 h9 h10)
  refine ⟨v1, v2, v3, da_IH_o op (by decide) v4, ?_, by rw [e2]; exact da_RA_n hs v6, ?_, ?_⟩
  · have := da_IH_adv op (s' := tr (a + 1)) (by rw [ht]; exact e1.1) (by rw [ht]; exact e1.2) v5
    rw [show (tr (a + 1)).1 = (tr a).1 + 1 by rw [e2]] at this
    exact this
  · exact da_IO_a op x y z (da_fo_n op x y z (by rw [da_nd_t op x k6 h6]; exact hs)) v7
  · exact da_IS_a op y z (da_fc_n op y z h7) v8
theorem da_A_9 {sd : Nat → Bool} {dq e a c H : Nat} {As : List Nat} {B Hs : Nat} {bu ex oh oc sh sc : Int32} {rg ce ar ps on ls pl ov oa sl : Nat → Int32} (F : da_F op x y z n K m sd tr) (ha : a < K) (he : e ≤ K) (h9 : op (tr a).1 = 9) (hd : (da_enc op (tr a).1).length < 2) (V : da_V op x y z sd tr dq e a c H As B Hs bu ex oh oc sh sc rg ce ar ps on ls pl ov oa sl) :
    da_V op x y z sd tr dq e (a + 1) c H As B Hs bu ex oh oc sh sc rg ce ar (upd ps 0 (nI ((tr a).1 + 1))) (upd on 0 (nI ((da_enc op (tr a).1).length + 1))) (upd ls (2 * 0 + (da_enc op (tr a).1).length) (nI ((tr a).1 + 1))) (upd pl (2 * 0 + (da_enc op (tr a).1).length) (x (tr a).1)) ov oa sl := by
  have hla := da_F_len op x y z F he
  obtain ⟨G, ht, hlt, _⟩ := F
  obtain ⟨v1, v2, v3, v4, v5, v6, v7, v8⟩ := V
  have e2 : tr (a + 1) = _ := (ht a).trans (da_st_9 op x y z h9)
  refine ⟨v1, v2, v3, ?_, ?_, by rw [e2]; exact v6, ?_, ?_⟩
  · exact da_IH_o op (by decide) (da_IH_on op (by decide) (da_IH_sto op (h := 0) hla (by decide) (by omega) (by omega) v4))
  · rw [ht]; exact da_IH_9 op x y z h9 v5
  · exact da_IO_a op x y z (da_fo_n op x y z (da_nd_f op x (by rw [h9]; decide) (by rw [h9]; decide))) v7
  · exact da_IS_a op y z (da_fc_n op y z (by rw [h9]; decide)) v8
theorem da_A_10b {sd : Nat → Bool} {dq e a c H : Nat} {As : List Nat} {B Hs : Nat} {bu ex oh oc sh sc : Int32} {rg ce ar ps on ls pl ov oa sl : Nat → Int32} (F : da_F op x y z n K m sd tr) (ha : a < K) (he : e ≤ K) (h10 : op (tr a).1 = 10) {b p : Nat} {st : List Nat} (hs : da_enc op (tr a).1 = b :: st) (hp : (tr a).2.2.2 b = nI p) (hp6 : p ≤ 6) (hp1 : 2 ≤ p) (V : da_V op x y z sd tr dq e a c H As B Hs bu ex oh oc sh sc rg ce ar ps on ls pl ov oa sl) :
    da_V op x y z sd tr dq e (a + 1) c H As B Hs bu ex oh oc sh sc rg ce ar (upd ps 0 (nI (b + 1))) on ls (upd pl (2 * 0 + st.length) (nI (p - 1))) ov oa sl := by
  have hla := da_F_len op x y z F he
  have hle := da_F_len op x y z F (Nat.le_of_lt ha)
  rw [hs, List.length_cons] at hle
  obtain ⟨G, ht, hlt, _⟩ := F
  obtain ⟨v1, v2, v3, v4, v5, v6, v7, v8⟩ := V
  have e2 : tr (a + 1) = _ := (ht a).trans (da_st_10 op x y z h10 hs)
  refine ⟨v1, v2, v3, ?_, ?_, by rw [e2]; exact v6, ?_, ?_⟩
  · exact da_IH_o op (by decide) (da_IH_stp op (h := 0) hla (by decide) (by omega) (by omega) v4)
  · rw [ht]; exact da_IH_10b op x y z h10 hs hp hp6 hp1 v5
  · exact da_IO_a op x y z (da_fo_n op x y z (da_nd_f op x (by rw [h10]; decide) (by rw [h10]; decide))) v7
  · exact da_IS_a op y z (da_fc_n op y z (by rw [h10]; decide)) v8
theorem da_A_10p {sd : Nat → Bool} {dq e a c H : Nat} {As : List Nat} {B Hs : Nat} {bu ex oh oc sh sc : Int32} {rg ce ar ps on ls pl ov oa sl : Nat → Int32} (F : da_F op x y z n K m sd tr) (ha : a < K) (he : e ≤ K) (h10 : op (tr a).1 = 10) {b p : Nat} {st : List Nat} (hs : da_enc op (tr a).1 = b :: st) (hp : (tr a).2.2.2 b = nI p) (hp1 : p = 1) (V : da_V op x y z sd tr dq e a c H As B Hs bu ex oh oc sh sc rg ce ar ps on ls pl ov oa sl) :
    da_V op x y z sd tr dq e (a + 1) c H As B Hs bu ex oh oc sh sc rg ce ar (upd ps 0 (nI ((tr a).1 + 1))) (upd on 0 (nI st.length)) ls (upd pl (2 * 0 + st.length) (nI (p - 1))) ov oa sl := by
  have hla := da_F_len op x y z F he
  have hle := da_F_len op x y z F (Nat.le_of_lt ha)
  rw [hs, List.length_cons] at hle
  obtain ⟨G, ht, hlt, _⟩ := F
  obtain ⟨v1, v2, v3, v4, v5, v6, v7, v8⟩ := V
  have e2 : tr (a + 1) = _ := (ht a).trans (da_st_10 op x y z h10 hs)
  refine ⟨v1, v2, v3, ?_, ?_, by rw [e2]; exact v6, ?_, ?_⟩
  · exact da_IH_o op (by decide) (da_IH_on op (by decide) (da_IH_stp op (h := 0) hla (by decide) (by omega) (by omega) v4))
  · rw [ht]; exact da_IH_10p op x y z h10 hs hp hp1 v5
  · exact da_IO_a op x y z (da_fo_n op x y z (da_nd_f op x (by rw [h10]; decide) (by rw [h10]; decide))) v7
  · exact da_IS_a op y z (da_fc_n op y z (by rw [h10]; decide)) v8
theorem da_F_mk {n : Nat} (hn : n ≤ 24) (ho : ∀ i, i < n → da_ok op x y z i) (hw : da_wf op y n = true) (R M L : Nat → Int32) :
    ∃ K, K ≤ 864 ∧ da_F op x y z n K (da_X op x y z n) (fun r => (da_X op x y z n).testBit r) (da_tr op x y z (0, R, M, L)) := by
  have G := da_G_of op x y z hn ho hw
  have B := da_ok_B op x y z ho
  obtain ⟨K, k1, k2, k3, k4⟩ := da_run0 op x y z G R M L
  exact ⟨K, k1, G, fun _ => rfl, k3, k2, k4, da_X_C op x y z B, da_X_256 op x y z B, fun _ => rfl, fun c hc q k h => da_M_ls op x y z (0, R, M, L) c hc q k h⟩
end
