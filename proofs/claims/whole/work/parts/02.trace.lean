/-! The plain trace: running loops, well-formedness, one step, its length -/
section
variable (op x y z : Nat → Int32)

/-- the places of the running REPEATs ahead of instruction i, innermost first -/
def da_enc : Nat → List Nat
  | 0 => []
  | i + 1 => if op i = 9 then i :: da_enc i else if op i = 10 then (da_enc i).tail else da_enc i

theorem da_enc_9 {i : Nat} (h : op i = 9) : da_enc op (i + 1) = i :: da_enc op i := by
  rw [da_enc, if_pos h]
theorem da_n109 {v : Int32} (h : v = 10) : ¬ v = 9 := by rw [h]; decide
theorem da_enc_10 {i : Nat} (h : op i = 10) : da_enc op (i + 1) = (da_enc op i).tail := by
  rw [da_enc, if_neg (da_n109 h), if_pos h]
theorem da_enc_o {i : Nat} (h9 : ¬ op i = 9) (h10 : ¬ op i = 10) : da_enc op (i + 1) = da_enc op i := by
  rw [da_enc, if_neg h9, if_neg h10]

theorem da_enc_suf : ∀ (i : Nat) (l : List Nat) (b : Nat) (rest : List Nat), da_enc op i = l ++ b :: rest → b < i ∧ op b = 9 ∧ da_enc op b = rest := by
  intro i
  induction i with
  | zero => intro l b rest h; rw [da_enc] at h; simp at h
  | succ i ih =>
    intro l b rest h
    by_cases h9 : op i = 9
    · rw [da_enc_9 op h9] at h
      cases l with
      | nil =>
        simp at h
        obtain ⟨rfl, rfl⟩ := h
        exact ⟨Nat.lt_succ_self _, h9, rfl⟩
      | cons a l =>
        simp at h
        have := ih l b rest h.2
        exact ⟨by omega, this.2⟩
    · by_cases h10 : op i = 10
      · rw [da_enc_10 op h10] at h
        cases e : da_enc op i with
        | nil => rw [e] at h; simp at h
        | cons a t =>
          rw [e] at h
          have := ih (a :: l) b rest (by rw [e]; exact congrArg (List.cons a) h)
          exact ⟨by omega, this.2⟩
      · rw [da_enc_o op h9 h10] at h
        have := ih l b rest h
        exact ⟨by omega, this.2⟩

theorem da_enc_hd {i b : Nat} {rest : List Nat} (h : da_enc op i = b :: rest) : b < i ∧ op b = 9 ∧ da_enc op b = rest :=
  da_enc_suf op i [] b rest h

theorem da_enc_mem {i b : Nat} (h : b ∈ da_enc op i) : b < i ∧ op b = 9 ∧ ∃ l, da_enc op i = l ++ b :: da_enc op b := by
  obtain ⟨s, t, e⟩ := List.append_of_mem h
  obtain ⟨h1, h2, h3⟩ := da_enc_suf op i s b t e
  exact ⟨h1, h2, s, by rw [h3]; exact e⟩

theorem da_enc_self (i : Nat) : ¬ i ∈ da_enc op i := fun h => Nat.lt_irrefl _ (da_enc_mem op h).1

theorem da_enc_out {b j : Nat} (hb : b < j) (h : ¬ b ∈ da_enc op j) : ∀ m, ¬ b ∈ da_enc op (j + m) := by
  intro m
  induction m with
  | zero => exact h
  | succ m ih =>
    intro hm
    rw [← Nat.add_assoc] at hm
    by_cases h9 : op (j + m) = 9
    · rw [da_enc_9 op h9] at hm
      rcases List.mem_cons.mp hm with e | e
      · omega
      · exact ih e
    · by_cases h10 : op (j + m) = 10
      · rw [da_enc_10 op h10] at hm
        exact ih (List.mem_of_mem_tail hm)
      · rw [da_enc_o op h9 h10] at hm
        exact ih hm

theorem da_enc_in {b i j : Nat} (h : b ∈ da_enc op i) (hb : b < j) (hj : j ≤ i) : b ∈ da_enc op j := by
  by_cases c : b ∈ da_enc op j
  · exact c
  · have := da_enc_out op hb c (i - j)
    rw [show j + (i - j) = i by omega] at this
    exact absurd h this

/-- brackets from i on, m instructions, c running, at most most -/
def da_bal (most : Nat) : Nat → Nat → Nat → Bool
  | 0, _, c => c == 0
  | m + 1, i, c =>
    if op i = 9 then (if c + 1 ≤ most then da_bal most m (i + 1) (c + 1) else false)
    else if op i = 10 then (if c = 0 then false else da_bal most m (i + 1) (c - 1))
    else da_bal most m (i + 1) c

theorem da_bal_enc : ∀ (m i c : Nat), da_bal op 2 m i c = true → (da_enc op i).length = c → c ≤ 2 →
    (∀ j, i ≤ j → j ≤ i + m → (da_enc op j).length ≤ 2) ∧ (da_enc op (i + m)).length = 0 ∧
    (∀ j, i ≤ j → j < i + m → op j = 10 → da_enc op j ≠ []) := by
  intro m
  induction m with
  | zero =>
    intro i c h hc h2
    have h0 : c = 0 := by simpa [da_bal] using h
    refine ⟨fun j h1 h3 => ?_, ?_, fun j h1 h3 => ?_⟩
    · have : j = i := by omega
      rw [this, hc]; exact h2
    · rw [Nat.add_zero, hc]; exact h0
    · omega
  | succ m ih =>
    intro i c h hc h2
    have key : ∀ c', da_bal op 2 m (i + 1) c' = true → (da_enc op (i + 1)).length = c' → c' ≤ 2 → (op i = 10 → da_enc op i ≠ []) →
        (∀ j, i ≤ j → j ≤ i + (m + 1) → (da_enc op j).length ≤ 2) ∧ (da_enc op (i + (m + 1))).length = 0 ∧
        (∀ j, i ≤ j → j < i + (m + 1) → op j = 10 → da_enc op j ≠ []) := by
      intro c' hb hl hc' hE
      obtain ⟨r1, r2, r3⟩ := ih (i + 1) c' hb hl hc'
      refine ⟨fun j h1 h3 => ?_, ?_, fun j h1 h3 h4 => ?_⟩
      · by_cases e : j = i
        · rw [e, hc]; exact h2
        · exact r1 j (by omega) (by omega)
      · rw [show i + (m + 1) = i + 1 + m by omega]; exact r2
      · by_cases e : j = i
        · rw [e]; rw [e] at h4; exact hE h4
        · exact r3 j (by omega) (by omega) h4
    rw [da_bal] at h
    by_cases h9 : op i = 9
    · rw [if_pos h9] at h
      by_cases hm : c + 1 ≤ 2
      · rw [if_pos hm] at h
        exact key (c + 1) h (by rw [da_enc_9 op h9, List.length_cons, hc]) hm (fun e => absurd h9 (da_n109 e))
      · rw [if_neg hm] at h; exact absurd h (by decide)
    · rw [if_neg h9] at h
      by_cases h10 : op i = 10
      · rw [if_pos h10] at h
        by_cases h0 : c = 0
        · rw [if_pos h0] at h; exact absurd h (by decide)
        · rw [if_neg h0] at h
          refine key (c - 1) h (by rw [da_enc_10 op h10, List.length_tail, hc]) (by omega) (fun _ e => ?_)
          rw [e] at hc; exact h0 hc.symm
      · rw [if_neg h10] at h
        exact key c h (by rw [da_enc_o op h9 h10, hc]) h2 (fun e => absurd e h10)

theorem da_skip_enc (most : Nat) : ∀ (m i c : Nat) (l base : List Nat), da_bal op most m i c = true → da_enc op i = l ++ base → l.length = c →
    da_enc op (i + m) = base := by
  intro m
  induction m with
  | zero =>
    intro i c l base h he hl
    have h0 : c = 0 := by simpa [da_bal] using h
    rw [h0] at hl
    rw [List.length_eq_zero_iff.mp hl] at he
    exact he
  | succ m ih =>
    intro i c l base h he hl
    rw [da_bal] at h
    rw [show i + (m + 1) = i + 1 + m by omega]
    by_cases h9 : op i = 9
    · rw [if_pos h9] at h
      by_cases hm : c + 1 ≤ most
      · rw [if_pos hm] at h
        exact ih (i + 1) (c + 1) (i :: l) base h (by rw [da_enc_9 op h9, he]; rfl) (by rw [List.length_cons, hl])
      · rw [if_neg hm] at h; exact absurd h (by decide)
    · rw [if_neg h9] at h
      by_cases h10 : op i = 10
      · rw [if_pos h10] at h
        by_cases h0 : c = 0
        · rw [if_pos h0] at h; exact absurd h (by decide)
        · rw [if_neg h0] at h
          cases l with
          | nil => exact absurd hl.symm h0
          | cons a l =>
            refine ih (i + 1) (c - 1) l base h (by rw [da_enc_10 op h10, he]; rfl) ?_
            rw [List.length_cons] at hl; omega
      · rw [if_neg h10] at h
        exact ih (i + 1) c l base h (by rw [da_enc_o op h9 h10, he]) hl

/-- an instruction as emit lets it in -/
def da_ok (i : Nat) : Prop :=
  (∃ k a b c : Nat, k ≤ 4 ∧ a < 8 ∧ b < 8 ∧ c < 8 ∧ op i = nI k ∧ x i = nI a ∧ y i = nI b ∧ z i = nI c) ∨
  (∃ k a b : Nat, 5 ≤ k ∧ k ≤ 7 ∧ a < 8 ∧ b < 8 ∧ op i = nI k ∧ x i = nI a ∧ y i = nI b) ∨
  (∃ a b : Nat, a < 8 ∧ 1 ≤ b ∧ b ≤ 8 ∧ op i = 8 ∧ x i = nI a ∧ y i = nI b) ∨
  (∃ a : Nat, 1 ≤ a ∧ a ≤ 6 ∧ op i = 9 ∧ x i = nI a) ∨ op i = 10

/-- what a SKIPZ may skip is there and balanced -/
def da_sok (n i : Nat) : Bool :=
  if op i = 8 then (if i + (y i).toNatClampNeg < n then da_bal op 24 (y i).toNatClampNeg (i + 1) 0 else false) else true
def da_asok (n : Nat) : Nat → Nat → Bool
  | 0, _ => true
  | m + 1, i => da_sok op y n i && da_asok n m (i + 1)
theorem da_asok_all (n : Nat) : ∀ m i, da_asok op y n m i = true → ∀ j, i ≤ j → j < i + m → da_sok op y n j = true := by
  intro m
  induction m with
  | zero => intro i _ j h1 h2; omega
  | succ m ih =>
    intro i h j h1 h2
    rw [da_asok, Bool.and_eq_true] at h
    by_cases e : j = i
    · rw [e]; exact h.1
    · exact ih (i + 1) h.2 j (by omega) (by omega)

/-- the well formed program -/
def da_wf (n : Nat) : Bool := da_bal op 2 n 0 0 && da_asok op y n n 0

def da_G (n : Nat) : Prop :=
  n ≤ 24 ∧ (∀ i, i < n → da_ok op x y z i) ∧ (∀ j, j ≤ n → (da_enc op j).length ≤ 2) ∧ da_enc op n = [] ∧
  (∀ j, j < n → op j = 10 → da_enc op j ≠ []) ∧
  (∀ i, i < n → op i = 8 → i + (y i).toNatClampNeg < n ∧ da_enc op (i + 1 + (y i).toNatClampNeg) = da_enc op (i + 1))

theorem da_G_of {n : Nat} (hn : n ≤ 24) (ho : ∀ i, i < n → da_ok op x y z i) (hw : da_wf op y n = true) : da_G op x y z n := by
  rw [da_wf, Bool.and_eq_true] at hw
  obtain ⟨r1, r2, r3⟩ := da_bal_enc op n 0 0 hw.1 rfl (by omega)
  have hs := da_asok_all op y n n 0 hw.2
  refine ⟨hn, ho, fun j hj => r1 j (by omega) (by omega), ?_, fun j hj => r3 j (by omega) (by omega), fun i hi h8 => ?_⟩
  · rw [Nat.zero_add] at r2; exact List.length_eq_zero_iff.mp r2
  · have h := hs i (by omega) (by omega)
    rw [da_sok, if_pos h8] at h
    by_cases c : i + (y i).toNatClampNeg < n
    · rw [if_pos c] at h
      exact ⟨c, da_skip_enc op 24 _ (i + 1) 0 [] _ h rfl rfl⟩
    · rw [if_neg c] at h; exact absurd h (by decide)
end
