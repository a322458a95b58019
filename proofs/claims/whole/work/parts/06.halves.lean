/-! The halves against the trace: what each step keeps -/
theorem da_sapp (v : Int32) (l : List Int32) : [v] ++ l = v :: l := rfl
section
variable (op x y z : Nat → Int32)

/-- half h stands at index k's place, with its running loops -/
def da_IH (s : da_St) (h : Nat) (ps on ls pl : Nat → Int32) : Prop :=
  ps h = nI s.1 ∧ on h = nI (da_enc op s.1).length ∧ da_SK ls pl s.2.2.2 (2 * h) (da_enc op s.1)

theorem da_IH_o {s : da_St} {h h' : Nat} {v : Int32} {ps on ls pl : Nat → Int32} (hn : h' ≠ h) (I : da_IH op s h' ps on ls pl) : da_IH op s h' (upd ps h v) on ls pl := by
  obtain ⟨i1, i2, i3⟩ := I
  exact ⟨by rw [pk_un hn]; exact i1, i2, i3⟩

theorem da_IH_adv {s s' : da_St} {h : Nat} {ps on ls pl : Nat → Int32} (he : da_enc op s'.1 = da_enc op s.1) (hL : s'.2.2.2 = s.2.2.2) (I : da_IH op s h ps on ls pl) :
    da_IH op s' h (upd ps h (nI s'.1)) on ls pl := by
  obtain ⟨_, i2, i3⟩ := I
  exact ⟨pk_us, by rw [he]; exact i2, by rw [he, hL]; exact i3⟩

theorem da_enc_8 {n : Nat} (G : da_G op x y z n) {s : da_St} (hn : s.1 < n) (h8 : op s.1 = 8) :
    da_enc op (da_st op x y z s).1 = da_enc op s.1 ∧ (da_st op x y z s).2.2.2 = s.2.2.2 := by
  have e1 : da_enc op (s.1 + 1) = da_enc op s.1 := da_enc_o op (by rw [h8]; decide) (by rw [h8]; decide)
  have e2 := (G.2.2.2.2.2 s.1 hn h8).2
  rw [da_st_8 op x y z h8]
  dsimp only
  refine ⟨?_, rfl⟩
  split
  · exact e2.trans e1
  · exact e1
theorem da_enc_7 {s : da_St} (h7 : op s.1 = 7) : da_enc op (da_st op x y z s).1 = da_enc op s.1 ∧ (da_st op x y z s).2.2.2 = s.2.2.2 := by
  rw [da_st_7 op x y z h7]
  exact ⟨da_enc_o op (by rw [h7]; decide) (by rw [h7]; decide), rfl⟩
theorem da_enc_t {s : da_St} (h7 : ¬ op s.1 = 7) (h8 : ¬ op s.1 = 8) (h9 : ¬ op s.1 = 9) (h10 : ¬ op s.1 = 10) :
    da_enc op (da_st op x y z s).1 = da_enc op s.1 ∧ (da_st op x y z s).2.2.2 = s.2.2.2 := by
  rw [da_st_t op x y z h7 h8 h9 h10]
  exact ⟨da_enc_o op h9 h10, rfl⟩

/-- REPEAT -/
theorem da_IH_9 {s : da_St} {h : Nat} {ps on ls pl : Nat → Int32} (h9 : op s.1 = 9) (I : da_IH op s h ps on ls pl) :
    da_IH op (da_st op x y z s) h (upd ps h (nI (s.1 + 1))) (upd on h (nI ((da_enc op s.1).length + 1)))
      (upd ls (2 * h + (da_enc op s.1).length) (nI (s.1 + 1))) (upd pl (2 * h + (da_enc op s.1).length) (x s.1)) := by
  obtain ⟨_, _, i3⟩ := I
  rw [da_st_9 op x y z h9]
  refine ⟨pk_us, ?_, ?_⟩
  · show upd on h _ h = nI (da_enc op (s.1 + 1)).length
    rw [pk_us, da_enc_9 op h9, List.length_cons]
  · show da_SK _ _ (upd s.2.2.2 s.1 (x s.1)) (2 * h) (da_enc op (s.1 + 1))
    rw [da_enc_9 op h9]
    refine ⟨pk_us, by rw [pk_us, pk_us], ?_⟩
    refine da_SK_c _ (fun j _ hj => ?_) (fun j _ hj => ?_) (fun b hb => ?_) i3
    · exact pk_un (by omega)
    · exact pk_un (by omega)
    · have := (da_enc_mem op hb).1
      exact pk_un (by omega)
/-- the other half keeps its own -/
theorem da_IH_sto {s : da_St} {h h' t : Nat} {v w : Int32} {ps on ls pl : Nat → Int32} (hl : (da_enc op s.1).length ≤ 2) (hn : h' ≠ h) (ht : 2 * h ≤ t) (ht' : t < 2 * h + 2)
    (I : da_IH op s h' ps on ls pl) : da_IH op s h' ps on (upd ls t v) (upd pl t w) := by
  obtain ⟨i1, i2, i3⟩ := I
  refine ⟨i1, i2, da_SK_c _ (fun j j1 j2 => ?_) (fun j j1 j2 => ?_) (fun b hb => rfl) i3⟩
  · exact pk_un (by omega)
  · exact pk_un (by omega)
theorem da_IH_stp {s : da_St} {h h' t : Nat} {w : Int32} {ps on ls pl : Nat → Int32} (hl : (da_enc op s.1).length ≤ 2) (hn : h' ≠ h) (ht : 2 * h ≤ t) (ht' : t < 2 * h + 2)
    (I : da_IH op s h' ps on ls pl) : da_IH op s h' ps on ls (upd pl t w) := by
  obtain ⟨i1, i2, i3⟩ := I
  refine ⟨i1, i2, da_SK_c _ (fun j j1 j2 => rfl) (fun j j1 j2 => ?_) (fun b hb => rfl) i3⟩
  exact pk_un (by omega)
theorem da_IH_on {s : da_St} {h h' : Nat} {v : Int32} {ps on ls pl : Nat → Int32} (hn : h' ≠ h) (I : da_IH op s h' ps on ls pl) : da_IH op s h' ps (upd on h v) ls pl := by
  obtain ⟨i1, i2, i3⟩ := I
  exact ⟨i1, by rw [pk_un hn]; exact i2, i3⟩

/-- END, another pass -/
theorem da_IH_10b {s : da_St} {h b p : Nat} {st : List Nat} {ps on ls pl : Nat → Int32} (h10 : op s.1 = 10) (he : da_enc op s.1 = b :: st) (hp : s.2.2.2 b = nI p) (hp6 : p ≤ 6) (hp1 : 2 ≤ p)
    (I : da_IH op s h ps on ls pl) : da_IH op (da_st op x y z s) h (upd ps h (nI (b + 1))) on ls (upd pl (2 * h + st.length) (nI (p - 1))) := by
  obtain ⟨_, i2, i3⟩ := I
  obtain ⟨hb1, hb2, hb3⟩ := da_enc_hd op he
  have e1 : da_enc op (b + 1) = da_enc op s.1 := by rw [da_enc_9 op hb2, hb3, he]
  rw [da_st_10 op x y z h10 he, hp, da_dec1 (by omega) hp6, if_pos ((da_dec0 (by omega)).mpr (by omega))]
  refine ⟨pk_us, ?_, ?_⟩
  · show on h = nI (da_enc op (b + 1)).length
    rw [e1]; exact i2
  · show da_SK _ _ (upd s.2.2.2 b (nI (p - 1))) (2 * h) (da_enc op (b + 1))
    rw [e1, he]
    rw [he] at i3
    obtain ⟨k1, k2, k3⟩ := i3
    refine ⟨k1, by rw [pk_us, pk_us], ?_⟩
    refine da_SK_c _ (fun j _ hj => rfl) (fun j _ hj => ?_) (fun c hc => ?_) k3
    · exact pk_un (by omega)
    · rw [← hb3] at hc
      have := (da_enc_mem op hc).1
      exact pk_un (by omega)
/-- END, the last pass -/
theorem da_IH_10p {s : da_St} {h b p : Nat} {st : List Nat} {ps on ls pl : Nat → Int32} (h10 : op s.1 = 10) (he : da_enc op s.1 = b :: st) (hp : s.2.2.2 b = nI p) (hp1 : p = 1)
    (I : da_IH op s h ps on ls pl) : da_IH op (da_st op x y z s) h (upd ps h (nI (s.1 + 1))) (upd on h (nI st.length)) ls (upd pl (2 * h + st.length) (nI (p - 1))) := by
  obtain ⟨_, i2, i3⟩ := I
  obtain ⟨hb1, hb2, hb3⟩ := da_enc_hd op he
  have e1 : da_enc op (s.1 + 1) = st := by rw [da_enc_10 op h10, he]; rfl
  rw [da_st_10 op x y z h10 he, hp, da_dec1 (by omega) (by omega), if_neg (fun h => by have := (da_dec0 (by omega)).mp h; omega)]
  refine ⟨pk_us, ?_, ?_⟩
  · show upd on h _ h = nI (da_enc op (s.1 + 1)).length
    rw [e1, pk_us]
  · show da_SK _ _ (upd s.2.2.2 b (nI (p - 1))) (2 * h) (da_enc op (s.1 + 1))
    rw [e1]
    rw [he] at i3
    obtain ⟨k1, k2, k3⟩ := i3
    refine da_SK_c _ (fun j _ hj => rfl) (fun j _ hj => ?_) (fun c hc => ?_) k3
    · exact pk_un (by omega)
    · rw [← hb3] at hc
      have := (da_enc_mem op hc).1
      exact pk_un (by omega)

/-- the operand queue between index e and index a at cycle c -/
def da_IO (sd : Nat → Bool) (tr : Nat → da_St) (dq e a c H : Nat) (As : List Nat) (B : Nat) (oh oc bu : Int32) (ov oa : Nat → Int32) : Prop :=
  oh = nI (H % 4) ∧ oc = nI (da_ls (da_fo op x y z sd tr) (a - e) e).length ∧ (da_ls (da_fo op x y z sd tr) (a - e) e).length ≤ dq ∧
  da_AR ov H (da_ls (da_fo op x y z sd tr) (a - e) e) ∧ As.length = (da_ls (da_fo op x y z sd tr) (a - e) e).length ∧ da_AR oa H (As.map nI) ∧
  (∀ t, t ∈ As → t ≤ c + 6) ∧ bu = nI B ∧ B ≤ c + 6 ∧ (c < B → ∃ l, As = l ++ [B])
/-- the store queue -/
def da_IS (tr : Nat → da_St) (dq e a Hs : Nat) (sh sc : Int32) (sl : Nat → Int32) : Prop :=
  sh = nI (Hs % 4) ∧ sc = nI (da_ls (da_fc op y z tr) (a - e) e).length ∧ (da_ls (da_fc op y z tr) (a - e) e).length ≤ dq ∧ da_AR sl Hs (da_ls (da_fc op y z tr) (a - e) e)

theorem da_IO_up {sd : Nat → Bool} {tr : Nat → da_St} {dq e a c H B : Nat} {As : List Nat} {oh oc bu : Int32} {ov oa : Nat → Int32}
    (I : da_IO op x y z sd tr dq e a c H As B oh oc bu ov oa) : da_IO op x y z sd tr dq e a (c + 1) H As B oh oc bu ov oa := by
  obtain ⟨i1, i2, i3, i4, i5, i6, i7, i8, i9, i10⟩ := I
  exact ⟨i1, i2, i3, i4, i5, i6, fun t ht => by have := i7 t ht; omega, i8, by omega, fun h => i10 (by omega)⟩

/-- execute goes on without an operand -/
theorem da_IO_e {sd : Nat → Bool} {tr : Nat → da_St} {dq e a c H B : Nat} {As : List Nat} {oh oc bu : Int32} {ov oa : Nat → Int32}
    (hf : da_fo op x y z sd tr e = []) (I : da_IO op x y z sd tr dq e a c H As B oh oc bu ov oa) : da_IO op x y z sd tr dq (e + 1) a c H As B oh oc bu ov oa := by
  have hq : da_ls (da_fo op x y z sd tr) (a - (e + 1)) (e + 1) = da_ls (da_fo op x y z sd tr) (a - e) e := by
    by_cases h : e < a
    · rw [da_ls_c _ e a h, hf]; rfl
    · rw [show a - e = 0 by omega, show a - (e + 1) = 0 by omega]; rfl
  unfold da_IO
  rw [hq]; exact I
theorem da_IS_e {tr : Nat → da_St} {dq e a Hs : Nat} {sh sc : Int32} {sl : Nat → Int32}
    (hf : da_fc op y z tr e = []) (I : da_IS op y z tr dq e a Hs sh sc sl) : da_IS op y z tr dq (e + 1) a Hs sh sc sl := by
  have hq : da_ls (da_fc op y z tr) (a - (e + 1)) (e + 1) = da_ls (da_fc op y z tr) (a - e) e := by
    by_cases h : e < a
    · rw [da_ls_c _ e a h, hf]; rfl
    · rw [show a - e = 0 by omega, show a - (e + 1) = 0 by omega]; rfl
  unfold da_IS
  rw [hq]; exact I
/-- execute takes an operand -/
theorem da_IO_t {sd : Nat → Bool} {tr : Nat → da_St} {dq e a c H B : Nat} {As : List Nat} {oh oc bu : Int32} {ov oa : Nat → Int32} {v : Int32}
    (hf : da_fo op x y z sd tr e = [v]) (hea : e < a) (I : da_IO op x y z sd tr dq e a c H As B oh oc bu ov oa) :
    ∃ t As', As = t :: As' ∧ oa (H % 4) = nI t ∧ ov (H % 4) = v ∧ oc = nI (As'.length + 1) ∧ As'.length < dq ∧
      (t ≤ c → da_IO op x y z sd tr dq (e + 1) a c (H + 1) As' B (nI ((H + 1) % 4)) (nI As'.length) bu ov oa) := by
  obtain ⟨i1, i2, i3, i4, i5, i6, i7, i8, i9, i10⟩ := I
  rw [da_ls_c _ e a hea, hf] at i2 i3 i4 i5
  rw [da_sapp] at i2 i3 i4 i5
  rw [List.length_cons] at i2 i3 i5
  obtain ⟨v1, v2⟩ := i4
  cases As with
  | nil => rw [List.length_nil] at i5; omega
  | cons t As' =>
    rw [List.length_cons] at i5
    obtain ⟨w1, w2⟩ := i6
    refine ⟨t, As', rfl, w1, v1, by rw [i2]; congr 1; omega, by omega, fun ht => ?_⟩
    refine ⟨rfl, by congr 1; omega, by omega, v2, by omega, w2, fun q hq => i7 q (List.mem_cons_of_mem _ hq), i8, i9, fun hb => ?_⟩
    obtain ⟨l, el⟩ := i10 hb
    cases l with
    | nil =>
      rw [List.nil_append] at el
      injection el with el1 el2
      omega
    | cons t' l =>
      rw [List.cons_append] at el
      injection el with el1 el2
      exact ⟨l, el2⟩
/-- execute takes a store's cell -/
theorem da_IS_t {tr : Nat → da_St} {dq e a Hs : Nat} {sh sc : Int32} {sl : Nat → Int32} {v : Int32}
    (hf : da_fc op y z tr e = [v]) (hea : e < a) (I : da_IS op y z tr dq e a Hs sh sc sl) :
    ∃ k : Nat, sl (Hs % 4) = v ∧ sc = nI (k + 1) ∧ k < dq ∧ da_IS op y z tr dq (e + 1) a (Hs + 1) (nI ((Hs + 1) % 4)) (nI k) sl := by
  obtain ⟨i1, i2, i3, i4⟩ := I
  rw [da_ls_c _ e a hea, hf] at i2 i3 i4
  rw [da_sapp] at i2 i3 i4
  rw [List.length_cons] at i2 i3
  obtain ⟨v1, v2⟩ := i4
  exact ⟨_, v1, i2, by omega, rfl, rfl, by omega, v2⟩
/-- access goes on without an operand -/
theorem da_IO_a {sd : Nat → Bool} {tr : Nat → da_St} {dq e a c H B : Nat} {As : List Nat} {oh oc bu : Int32} {ov oa : Nat → Int32}
    (hf : da_fo op x y z sd tr a = []) (I : da_IO op x y z sd tr dq e a c H As B oh oc bu ov oa) : da_IO op x y z sd tr dq e (a + 1) c H As B oh oc bu ov oa := by
  have hq : da_ls (da_fo op x y z sd tr) (a + 1 - e) e = da_ls (da_fo op x y z sd tr) (a - e) e := by
    by_cases h : e ≤ a
    · rw [da_ls_e _ e a h, hf, List.append_nil]
    · rw [show a - e = 0 by omega, show a + 1 - e = 0 by omega]
  unfold da_IO
  rw [hq]; exact I
theorem da_IS_a {tr : Nat → da_St} {dq e a Hs : Nat} {sh sc : Int32} {sl : Nat → Int32}
    (hf : da_fc op y z tr a = []) (I : da_IS op y z tr dq e a Hs sh sc sl) : da_IS op y z tr dq e (a + 1) Hs sh sc sl := by
  have hq : da_ls (da_fc op y z tr) (a + 1 - e) e = da_ls (da_fc op y z tr) (a - e) e := by
    by_cases h : e ≤ a
    · rw [da_ls_e _ e a h, hf, List.append_nil]
    · rw [show a - e = 0 by omega, show a + 1 - e = 0 by omega]
  unfold da_IS
  rw [hq]; exact I
/-- access sends an operand -/
theorem da_IO_p {sd : Nat → Bool} {tr : Nat → da_St} {dq e a c H B B' t q : Nat} {As : List Nat} {oh oc bu : Int32} {ov oa : Nat → Int32} {v : Int32}
    (hd : dq ≤ 4) (hf : da_fo op x y z sd tr a = [v]) (hea : e ≤ a) (hc : oc = nI q) (hq : q < dq) (ht : t ≤ c + 6) (hB : (B' = t) ∨ (B' ≤ c))
    (I : da_IO op x y z sd tr dq e a c H As B oh oc bu ov oa) :
    da_IO op x y z sd tr dq e (a + 1) c H (As ++ [t]) B' oh (nI (q + 1)) (nI B') (upd ov ((H + q) % 4) v) (upd oa ((H + q) % 4) (nI t)) := by
  obtain ⟨i1, i2, i3, i4, i5, i6, i7, i8, i9, i10⟩ := I
  have hq' : q = (da_ls (da_fo op x y z sd tr) (a - e) e).length := by
    rw [hc] at i2; exact (nI_eq (by omega) (by omega)).mp i2
  have hqA : q = (As.map nI).length := by rw [List.length_map]; omega
  unfold da_IO
  rw [da_ls_e _ e a hea, hf, List.length_append, List.length_singleton, ← hq']
  refine ⟨i1, rfl, by omega, ?_, by rw [List.length_append, List.length_singleton]; omega, ?_, ?_, rfl, ?_, ?_⟩
  · have := da_AR_push (v := v) _ H (by omega) i4
    rw [← hq'] at this; exact this
  · rw [List.map_append]
    have := da_AR_push (v := nI t) _ H (by omega) i6
    rw [← hqA] at this; exact this
  · intro s hs
    rcases List.mem_append.mp hs with h | h
    · exact i7 s h
    · rw [List.mem_singleton.mp h]; exact ht
  · rcases hB with h | h <;> omega
  · intro hb
    rcases hB with h | h
    · exact ⟨As, by rw [h]⟩
    · omega
/-- access sends a store's cell -/
theorem da_IS_p {tr : Nat → da_St} {dq e a Hs q : Nat} {sh sc : Int32} {sl : Nat → Int32} {v : Int32}
    (hd : dq ≤ 4) (hf : da_fc op y z tr a = [v]) (hea : e ≤ a) (hc : sc = nI q) (hq : q < dq) (I : da_IS op y z tr dq e a Hs sh sc sl) :
    da_IS op y z tr dq e (a + 1) Hs sh (nI (q + 1)) (upd sl ((Hs + q) % 4) v) := by
  obtain ⟨i1, i2, i3, i4⟩ := I
  have hq' : q = (da_ls (da_fc op y z tr) (a - e) e).length := by
    rw [hc] at i2; exact (nI_eq (by omega) (by omega)).mp i2
  unfold da_IS
  rw [da_ls_e _ e a hea, hf, List.length_append, List.length_singleton, ← hq']
  refine ⟨i1, rfl, by omega, ?_⟩
  have := da_AR_push (v := v) _ Hs (by omega) i4
  rw [← hq'] at this; exact this
end
