section
/-! pure rows to paste: stores, nI and lN arithmetic, masks, shifts, narrowing, branches by naturals (pk_le, pk_lt, pk_eq), loops (lp1 .. lp16: the measure of the state; rp1 ..: recursion), negatives. Take what you need -/
theorem pk_us {f : Nat → Int32} {k : Nat} {x : Int32} : upd f k x k = x := if_pos rfl
theorem pk_un {f : Nat → Int32} {k j : Nat} {x : Int32} (h : j ≠ k) : upd f k x j = f j := if_neg h
theorem pk_sub {a b : Nat} (h : b ≤ a) : nI a - nI b = nI (a - b) := by
  obtain ⟨c, rfl⟩ : ∃ c, a = c + b := ⟨a - b, by omega⟩
  rw [← nI_add, Int32.add_sub_cancel, Nat.add_sub_cancel]
theorem pk_m1 (n : Nat) : nI (n + 1) + (-1) = nI n := by
  rw [← nI_1, Int32.add_assoc, show (1 : Int32) + (-1) = 0 from rfl, Int32.add_zero]
theorem pk_mul (a b : Nat) : nI a * nI b = nI (a * b) := (Int32.ofNat_mul a b).symm
theorem pk_div {a d : Nat} (ha : a < 2 ^ 31) (h0 : 0 < d) (hd : d < 2 ^ 31) : nI a / nI d = nI (a / d) := by
  apply Int32.toInt_inj.mp
  rw [lg_idiv_nonneg (by rw [nI_toInt ha]; omega) (by rw [nI_toInt hd]; omega), nI_toInt ha, nI_toInt hd, nI_toInt (Nat.lt_of_le_of_lt (Nat.div_le_self a d) ha)]
  first | rfl | exact (Int.natCast_ediv _ _).symm
theorem pk_rem {a d : Nat} (ha : a < 2 ^ 31) (h0 : 0 < d) (hd : d < 2 ^ 31) : nI a - nI a / nI d * nI d = nI (a % d) := by
  rw [pk_div ha h0 hd, pk_mul, pk_sub (Nat.div_mul_le_self a d)]
  exact congrArg nI (by have := Nat.div_add_mod' a d; omega)
theorem pk_sub_toInt {a b : Nat} (ha : a < 2 ^ 30) (hb : b < 2 ^ 30) : (nI a - nI b).toInt = (a : Int) - b := by
  rw [Int32.toInt_sub, nI_toInt (by omega), nI_toInt (by omega)]
  exact Int.bmod_eq_of_le (by omega) (by omega)
theorem pk_sneg {a b : Nat} (hb : b < 2 ^ 30) (h : a < b) : nI a - nI b < 0 := by
  rw [Int32.lt_iff_toInt_lt, pk_sub_toInt (by omega) hb, show (0 : Int32).toInt = 0 from by decide]
  omega
theorem pk_ix (x : Int32) {n : Nat} (hn : n < 2 ^ 31) : x < 0 ∨ nI n ≤ x ∨ ∃ j : Nat, j < n ∧ x = nI j := by
  by_cases h : x < 0
  · exact Or.inl h
  · obtain ⟨j, hj, rfl⟩ := nI_of h
    by_cases h2 : j < n
    · exact Or.inr (Or.inr ⟨j, h2, rfl⟩)
    · exact Or.inr (Or.inl (nI_le (by omega) hj))
theorem pk_le {x y : Int32} {A B : Prop} (a b : Nat) (f : a ≤ b → A) (g : b < a → B) (hx : x = nI a := by rfl) (hy : y = nI b := by rfl) (ha : a < 2 ^ 31 := by omega) (hb : b < 2 ^ 31 := by omega) : (x ≤ y → A) ∧ (¬ x ≤ y → B) := by
  subst hx hy
  rw [nI_leI ha hb]
  exact ⟨f, fun z => g (by omega)⟩
theorem pk_lt {x y : Int32} {A B : Prop} (a b : Nat) (f : a < b → A) (g : b ≤ a → B) (hx : x = nI a := by rfl) (hy : y = nI b := by rfl) (ha : a < 2 ^ 31 := by omega) (hb : b < 2 ^ 31 := by omega) : (x < y → A) ∧ (¬ x < y → B) := by
  subst hx hy
  rw [nI_ltI ha hb]
  exact ⟨f, fun z => g (by omega)⟩
theorem pk_eq {x y : Int32} {A B : Prop} (a b : Nat) (f : a = b → A) (g : a ≠ b → B) (hx : x = nI a := by rfl) (hy : y = nI b := by rfl) (ha : a < 2 ^ 31 := by omega) (hb : b < 2 ^ 31 := by omega) : (x = y → A) ∧ (¬ x = y → B) := by
  subst hx hy
  rw [nI_eq ha hb]
  exact ⟨f, g⟩
theorem pk_in {x : Int32} (n N : Nat) (h : n < N) (hx : x = nI n := by rfl) (hN : N < 2 ^ 31 := by omega) : vp_in x N := by
  subst hx
  exact vp_in_nI h hN
theorem pk_cl {x : Int32} (n : Nat) (hx : x = nI n := by rfl) (h : n < 2 ^ 31 := by omega) : x.toNatClampNeg = n := by
  subst hx
  exact nI_clamp h
theorem pk_tn {n : Nat} (h : n < 2 ^ 32) : (nI n).toBitVec.toNat = n := Nat.mod_eq_of_lt h
theorem pk_and (x : Int32) {m : Int32} (k : Nat) (hm : m.toBitVec.toNat = 2 ^ k - 1) : x &&& m = nI (x.toBitVec.toNat % 2 ^ k) := by
  apply Int32.toBitVec_inj.mp
  apply BitVec.eq_of_toNat_eq
  rw [Int32.toBitVec_and, BitVec.toNat_and, hm, Nat.and_two_pow_sub_one_eq_mod]
  show _ = (BitVec.ofNat 32 _).toNat
  rw [BitVec.toNat_ofNat]
  exact (Nat.mod_eq_of_lt (Nat.lt_of_le_of_lt (Nat.mod_le _ _) x.toBitVec.isLt)).symm
theorem pk_andN {n : Nat} (h : n < 2 ^ 32) {m : Int32} (k : Nat) (hm : m.toBitVec.toNat = 2 ^ k - 1) : nI n &&& m = nI (n % 2 ^ k) := by
  rw [pk_and _ k hm, pk_tn h]
theorem pk_andE (x : Int32) {m : Int32} (k : Nat) (hm : m.toBitVec.toNat = 2 ^ k - 1) : ∃ j : Nat, j < 2 ^ k ∧ x &&& m = nI j := ⟨_, Nat.mod_lt _ (Nat.two_pow_pos k), pk_and x k hm⟩
theorem pk_andIn (x : Int32) {m : Int32} (k : Nat) (hm : m.toBitVec.toNat = 2 ^ k - 1) (hk : k ≤ 30) : vp_in (x &&& m) (2 ^ k) := by
  obtain ⟨j, hj, e⟩ := pk_andE x k hm
  rw [e]
  exact vp_in_nI hj (Nat.lt_of_le_of_lt (Nat.pow_le_pow_right (by decide) hk) (by decide))
theorem pk_shl (a s : Int32) (k : Nat) (hs : (s.toBitVec.smod 32).toNat = k) : (a <<< s).toBitVec.toNat = a.toBitVec.toNat * 2 ^ k % 2 ^ 32 := by
  show (a.toBitVec <<< (s.toBitVec.smod 32).toNat).toNat = _
  rw [hs, BitVec.toNat_shiftLeft, Nat.shiftLeft_eq]
theorem pk_shlN {n : Nat} (s : Int32) (k : Nat) (hs : (s.toBitVec.smod 32).toNat = k) (h : n * 2 ^ k < 2 ^ 32) : nI n <<< s = nI (n * 2 ^ k) := by
  apply Int32.toBitVec_inj.mp
  apply BitVec.eq_of_toNat_eq
  have hn : n < 2 ^ 32 := Nat.lt_of_le_of_lt (Nat.le_mul_of_pos_right n (Nat.two_pow_pos k)) h
  rw [pk_shl _ _ k hs, pk_tn hn, pk_tn h, Nat.mod_eq_of_lt h]
theorem pk_shr (a s : Int32) (k : Nat) (hs : (s.toBitVec.smod 32).toNat = k) : (a >>> s).toInt = a.toInt >>> k := by
  show (a.toBitVec.sshiftRight (s.toBitVec.smod 32).toNat).toInt = _
  rw [hs, BitVec.toInt_sshiftRight]
  rfl
theorem pk_shrN {n : Nat} (h : n < 2 ^ 31) (s : Int32) (k : Nat) (hs : (s.toBitVec.smod 32).toNat = k) : nI n >>> s = nI (n / 2 ^ k) := by
  apply Int32.toInt_inj.mp
  have h2 : n / 2 ^ k ≤ n := Nat.div_le_self _ _
  rw [pk_shr _ _ k hs, nI_toInt h, nI_toInt (by omega), Int.shiftRight_eq_div_pow]
  rfl
end
section
/-! The plain trace: running loops, well-formedness, one step, its length -/
section
variable (op x y z : Nat → Int32)

/-- the places of the running REPEATs ahead of instruction i, innermost first -/
def da_enc : Nat → List Nat
  | 0 => []
  | i + 1 => if op i = 9 then i :: da_enc i else if op i = 10 then (da_enc i).tail else da_enc i

theorem da_enc_9 {i : Nat} (h : op i = 9) : da_enc op (i + 1) = i :: da_enc op i := by
  rw [da_enc, if_pos h]
theorem da_n109 {v : Int32} (h : v = 10) : ¬ v = 9 := by rw [h]; decide
theorem da_enc_10 {i : Nat} (h : op i = 10) : da_enc op (i + 1) = (da_enc op i).tail := by
  rw [da_enc, if_neg (da_n109 h), if_pos h]
theorem da_enc_o {i : Nat} (h9 : ¬ op i = 9) (h10 : ¬ op i = 10) : da_enc op (i + 1) = da_enc op i := by
  rw [da_enc, if_neg h9, if_neg h10]

theorem da_enc_suf : ∀ (i : Nat) (l : List Nat) (b : Nat) (rest : List Nat), da_enc op i = l ++ b :: rest → b < i ∧ op b = 9 ∧ da_enc op b = rest := by
  intro i
  induction i with
  | zero => intro l b rest h; rw [da_enc] at h; simp at h
  | succ i ih =>
    intro l b rest h
    by_cases h9 : op i = 9
    · rw [da_enc_9 op h9] at h
      cases l with
      | nil =>
        simp at h
        obtain ⟨rfl, rfl⟩ := h
        exact ⟨Nat.lt_succ_self _, h9, rfl⟩
      | cons a l =>
        simp at h
        have := ih l b rest h.2
        exact ⟨by omega, this.2⟩
    · by_cases h10 : op i = 10
      · rw [da_enc_10 op h10] at h
        cases e : da_enc op i with
        | nil => rw [e] at h; simp at h
        | cons a t =>
          rw [e] at h
          have := ih (a :: l) b rest (by rw [e]; exact congrArg (List.cons a) h)
          exact ⟨by omega, this.2⟩
      · rw [da_enc_o op h9 h10] at h
        have := ih l b rest h
        exact ⟨by omega, this.2⟩

theorem da_enc_hd {i b : Nat} {rest : List Nat} (h : da_enc op i = b :: rest) : b < i ∧ op b = 9 ∧ da_enc op b = rest :=
  da_enc_suf op i [] b rest h

theorem da_enc_mem {i b : Nat} (h : b ∈ da_enc op i) : b < i ∧ op b = 9 ∧ ∃ l, da_enc op i = l ++ b :: da_enc op b := by
  obtain ⟨s, t, e⟩ := List.append_of_mem h
  obtain ⟨h1, h2, h3⟩ := da_enc_suf op i s b t e
  exact ⟨h1, h2, s, by rw [h3]; exact e⟩

theorem da_enc_self (i : Nat) : ¬ i ∈ da_enc op i := fun h => Nat.lt_irrefl _ (da_enc_mem op h).1

theorem da_enc_out {b j : Nat} (hb : b < j) (h : ¬ b ∈ da_enc op j) : ∀ m, ¬ b ∈ da_enc op (j + m) := by
  intro m
  induction m with
  | zero => exact h
  | succ m ih =>
    intro hm
    rw [← Nat.add_assoc] at hm
    by_cases h9 : op (j + m) = 9
    · rw [da_enc_9 op h9] at hm
      rcases List.mem_cons.mp hm with e | e
      · omega
      · exact ih e
    · by_cases h10 : op (j + m) = 10
      · rw [da_enc_10 op h10] at hm
        exact ih (List.mem_of_mem_tail hm)
      · rw [da_enc_o op h9 h10] at hm
        exact ih hm

theorem da_enc_in {b i j : Nat} (h : b ∈ da_enc op i) (hb : b < j) (hj : j ≤ i) : b ∈ da_enc op j := by
  by_cases c : b ∈ da_enc op j
  · exact c
  · have := da_enc_out op hb c (i - j)
    rw [show j + (i - j) = i by omega] at this
    exact absurd h this

/-- brackets from i on, m instructions, c running, at most most -/
def da_bal (most : Nat) : Nat → Nat → Nat → Bool
  | 0, _, c => c == 0
  | m + 1, i, c =>
    if op i = 9 then (if c + 1 ≤ most then da_bal most m (i + 1) (c + 1) else false)
    else if op i = 10 then (if c = 0 then false else da_bal most m (i + 1) (c - 1))
    else da_bal most m (i + 1) c

theorem da_bal_enc : ∀ (m i c : Nat), da_bal op 2 m i c = true → (da_enc op i).length = c → c ≤ 2 →
    (∀ j, i ≤ j → j ≤ i + m → (da_enc op j).length ≤ 2) ∧ (da_enc op (i + m)).length = 0 ∧
    (∀ j, i ≤ j → j < i + m → op j = 10 → da_enc op j ≠ []) := by
  intro m
  induction m with
  | zero =>
    intro i c h hc h2
    have h0 : c = 0 := by simpa [da_bal] using h
    refine ⟨fun j h1 h3 => ?_, ?_, fun j h1 h3 => ?_⟩
    · have : j = i := by omega
      rw [this, hc]; exact h2
    · rw [Nat.add_zero, hc]; exact h0
    · omega
  | succ m ih =>
    intro i c h hc h2
    have key : ∀ c', da_bal op 2 m (i + 1) c' = true → (da_enc op (i + 1)).length = c' → c' ≤ 2 → (op i = 10 → da_enc op i ≠ []) →
        (∀ j, i ≤ j → j ≤ i + (m + 1) → (da_enc op j).length ≤ 2) ∧ (da_enc op (i + (m + 1))).length = 0 ∧
        (∀ j, i ≤ j → j < i + (m + 1) → op j = 10 → da_enc op j ≠ []) := by
      intro c' hb hl hc' hE
      obtain ⟨r1, r2, r3⟩ := ih (i + 1) c' hb hl hc'
      refine ⟨fun j h1 h3 => ?_, ?_, fun j h1 h3 h4 => ?_⟩
      · by_cases e : j = i
        · rw [e, hc]; exact h2
        · exact r1 j (by omega) (by omega)
      · rw [show i + (m + 1) = i + 1 + m by omega]; exact r2
      · by_cases e : j = i
        · rw [e]; rw [e] at h4; exact hE h4
        · exact r3 j (by omega) (by omega) h4
    rw [da_bal] at h
    by_cases h9 : op i = 9
    · rw [if_pos h9] at h
      by_cases hm : c + 1 ≤ 2
      · rw [if_pos hm] at h
        exact key (c + 1) h (by rw [da_enc_9 op h9, List.length_cons, hc]) hm (fun e => absurd h9 (da_n109 e))
      · rw [if_neg hm] at h; exact absurd h (by decide)
    · rw [if_neg h9] at h
      by_cases h10 : op i = 10
      · rw [if_pos h10] at h
        by_cases h0 : c = 0
        · rw [if_pos h0] at h; exact absurd h (by decide)
        · rw [if_neg h0] at h
          refine key (c - 1) h (by rw [da_enc_10 op h10, List.length_tail, hc]) (by omega) (fun _ e => ?_)
          rw [e] at hc; exact h0 hc.symm
      · rw [if_neg h10] at h
        exact key c h (by rw [da_enc_o op h9 h10, hc]) h2 (fun e => absurd e h10)

theorem da_skip_enc (most : Nat) : ∀ (m i c : Nat) (l base : List Nat), da_bal op most m i c = true → da_enc op i = l ++ base → l.length = c →
    da_enc op (i + m) = base := by
  intro m
  induction m with
  | zero =>
    intro i c l base h he hl
    have h0 : c = 0 := by simpa [da_bal] using h
    rw [h0] at hl
    rw [List.length_eq_zero_iff.mp hl] at he
    exact he
  | succ m ih =>
    intro i c l base h he hl
    rw [da_bal] at h
    rw [show i + (m + 1) = i + 1 + m by omega]
    by_cases h9 : op i = 9
    · rw [if_pos h9] at h
      by_cases hm : c + 1 ≤ most
      · rw [if_pos hm] at h
        exact ih (i + 1) (c + 1) (i :: l) base h (by rw [da_enc_9 op h9, he]; rfl) (by rw [List.length_cons, hl])
      · rw [if_neg hm] at h; exact absurd h (by decide)
    · rw [if_neg h9] at h
      by_cases h10 : op i = 10
      · rw [if_pos h10] at h
        by_cases h0 : c = 0
        · rw [if_pos h0] at h; exact absurd h (by decide)
        · rw [if_neg h0] at h
          cases l with
          | nil => exact absurd hl.symm h0
          | cons a l =>
            refine ih (i + 1) (c - 1) l base h (by rw [da_enc_10 op h10, he]; rfl) ?_
            rw [List.length_cons] at hl; omega
      · rw [if_neg h10] at h
        exact ih (i + 1) c l base h (by rw [da_enc_o op h9 h10, he]) hl

/-- an instruction as emit lets it in -/
def da_ok (i : Nat) : Prop :=
  (∃ k a b c : Nat, k ≤ 4 ∧ a < 8 ∧ b < 8 ∧ c < 8 ∧ op i = nI k ∧ x i = nI a ∧ y i = nI b ∧ z i = nI c) ∨
  (∃ k a b : Nat, 5 ≤ k ∧ k ≤ 7 ∧ a < 8 ∧ b < 8 ∧ op i = nI k ∧ x i = nI a ∧ y i = nI b) ∨
  (∃ a b : Nat, a < 8 ∧ 1 ≤ b ∧ b ≤ 8 ∧ op i = 8 ∧ x i = nI a ∧ y i = nI b) ∨
  (∃ a : Nat, 1 ≤ a ∧ a ≤ 6 ∧ op i = 9 ∧ x i = nI a) ∨ op i = 10

/-- what a SKIPZ may skip is there and balanced -/
def da_sok (n i : Nat) : Bool :=
  if op i = 8 then (if i + (y i).toNatClampNeg < n then da_bal op 24 (y i).toNatClampNeg (i + 1) 0 else false) else true
def da_asok (n : Nat) : Nat → Nat → Bool
  | 0, _ => true
  | m + 1, i => da_sok op y n i && da_asok n m (i + 1)
theorem da_asok_all (n : Nat) : ∀ m i, da_asok op y n m i = true → ∀ j, i ≤ j → j < i + m → da_sok op y n j = true := by
  intro m
  induction m with
  | zero => intro i _ j h1 h2; omega
  | succ m ih =>
    intro i h j h1 h2
    rw [da_asok, Bool.and_eq_true] at h
    by_cases e : j = i
    · rw [e]; exact h.1
    · exact ih (i + 1) h.2 j (by omega) (by omega)

/-- the well formed program -/
def da_wf (n : Nat) : Bool := da_bal op 2 n 0 0 && da_asok op y n n 0

def da_G (n : Nat) : Prop :=
  n ≤ 24 ∧ (∀ i, i < n → da_ok op x y z i) ∧ (∀ j, j ≤ n → (da_enc op j).length ≤ 2) ∧ da_enc op n = [] ∧
  (∀ j, j < n → op j = 10 → da_enc op j ≠ []) ∧
  (∀ i, i < n → op i = 8 → i + (y i).toNatClampNeg < n ∧ da_enc op (i + 1 + (y i).toNatClampNeg) = da_enc op (i + 1))

theorem da_G_of {n : Nat} (hn : n ≤ 24) (ho : ∀ i, i < n → da_ok op x y z i) (hw : da_wf op y n = true) : da_G op x y z n := by
  rw [da_wf, Bool.and_eq_true] at hw
  obtain ⟨r1, r2, r3⟩ := da_bal_enc op n 0 0 hw.1 rfl (by omega)
  have hs := da_asok_all op y n n 0 hw.2
  refine ⟨hn, ho, fun j hj => r1 j (by omega) (by omega), ?_, fun j hj => r3 j (by omega) (by omega), fun i hi h8 => ?_⟩
  · rw [Nat.zero_add] at r2; exact List.length_eq_zero_iff.mp r2
  · have h := hs i (by omega) (by omega)
    rw [da_sok, if_pos h8] at h
    by_cases c : i + (y i).toNatClampNeg < n
    · rw [if_pos c] at h
      exact ⟨c, da_skip_enc op 24 _ (i + 1) 0 [] _ h rfl rfl⟩
    · rw [if_neg c] at h; exact absurd h (by decide)
end
end
section
/-! One step of the plain reading, its invariant, the length of the trace -/
abbrev da_St : Type := Nat × (Nat → Int32) × (Nat → Int32) × (Nat → Int32)
def da_sum (o a b : Int32) : Int32 :=
  if o = 0 then a + b else if o = 1 then a - b else if o = 2 then a * b else if o = 3 then a ^^^ b else if a < b then 1 else 0

def da_sm (f : Nat → Nat) : Nat → Nat
  | 0 => 0
  | n + 1 => da_sm f n + f n
theorem da_sm_le {f g : Nat → Nat} : ∀ n, (∀ j, j < n → f j ≤ g j) → da_sm f n ≤ da_sm g n := by
  intro n
  induction n with
  | zero => intro _; exact Nat.le_refl _
  | succ n ih =>
    intro h
    have h1 := ih (fun j hj => h j (by omega))
    have h2 := h n (by omega)
    show da_sm f n + f n ≤ da_sm g n + g n
    omega
theorem da_sm_lt {f g : Nat → Nat} {i : Nat} : ∀ n, (∀ j, j < n → f j ≤ g j) → i < n → f i < g i → da_sm f n < da_sm g n := by
  intro n
  induction n with
  | zero => intro _ h; omega
  | succ n ih =>
    intro h hi hl
    have h2 := h n (by omega)
    show da_sm f n + f n < da_sm g n + g n
    by_cases e : i = n
    · rw [e] at hl
      have h1 := da_sm_le (f := f) (g := g) n (fun j hj => h j (by omega))
      omega
    · have h1 := ih (fun j hj => h j (by omega)) (by omega) hl
      omega
theorem da_sm_bd {f : Nat → Nat} {c : Nat} : ∀ n, (∀ j, j < n → f j ≤ c) → da_sm f n ≤ n * c := by
  intro n
  induction n with
  | zero => intro _; exact Nat.zero_le _
  | succ n ih =>
    intro h
    have h1 := ih (fun j hj => h j (by omega))
    have h2 := h n (by omega)
    show da_sm f n + f n ≤ (n + 1) * c
    rw [Nat.add_mul]; omega

section
variable (op x y z : Nat → Int32)

def da_cl (i : Nat) (R : Nat → Int32) : Int32 := (R (y i).toNatClampNeg + z i) &&& 15
def da_tv (i : Nat) (R M : Nat → Int32) : Int32 :=
  if op i = 5 then R (y i).toNatClampNeg + z i
  else if op i = 6 then M (da_cl y z i R).toNatClampNeg
  else da_sum (op i) (R (y i).toNatClampNeg) (R (z i).toNatClampNeg)
def da_hd (i : Nat) : Nat := (da_enc op i).headD 0
/-- one step -/
def da_st (s : da_St) : da_St :=
  if op s.1 = 7 then (s.1 + 1, s.2.1, upd s.2.2.1 (da_cl y z s.1 s.2.1).toNatClampNeg (s.2.1 (x s.1).toNatClampNeg), s.2.2.2)
  else if op s.1 = 8 then (if s.2.1 (x s.1).toNatClampNeg = 0 then s.1 + 1 + (y s.1).toNatClampNeg else s.1 + 1, s.2.1, s.2.2.1, s.2.2.2)
  else if op s.1 = 9 then (s.1 + 1, s.2.1, s.2.2.1, upd s.2.2.2 s.1 (x s.1))
  else if op s.1 = 10 then (if 0 < s.2.2.2 (da_hd op s.1) - 1 then da_hd op s.1 + 1 else s.1 + 1, s.2.1, s.2.2.1, upd s.2.2.2 (da_hd op s.1) (s.2.2.2 (da_hd op s.1) - 1))
  else (s.1 + 1, upd s.2.1 (x s.1).toNatClampNeg (da_tv op y z s.1 s.2.1 s.2.2.1), s.2.2.1, s.2.2.2)
def da_tr (s : da_St) : Nat → da_St
  | 0 => s
  | k + 1 => da_st op x y z (da_tr s k)
theorem da_tr_s (s : da_St) : ∀ k, da_tr op x y z (da_st op x y z s) k = da_tr op x y z s (k + 1) := by
  intro k
  induction k with
  | zero => rfl
  | succ k ih => rw [da_tr, ih]; rfl

/-- what holds at each place of the trace -/
def da_I (n : Nat) (s : da_St) : Prop := s.1 ≤ n ∧ ∀ b, b ∈ da_enc op s.1 → ∃ p : Nat, 1 ≤ p ∧ p ≤ 6 ∧ s.2.2.2 b = nI p

def da_w0 (l : Nat) : Nat := if l = 0 then 1 else if l = 1 then 6 else 36
def da_w1 (l t : Nat) : Nat := if l ≤ 1 then t else 6 * t
def da_in (pc j : Nat) : Nat := if pc ≤ j then 1 else 0
def da_r0 (pc j l : Nat) : Nat := if pc ≤ j then da_w0 l else 0
def da_r1 (b0 pc p0 j : Nat) : Nat :=
  if b0 ∈ da_enc op j then da_w1 (da_enc op j).length (da_in pc j + (p0 - 1)) else da_r0 pc j (da_enc op j).length
def da_r2 (b1 b0 pc p1 p0 j : Nat) : Nat :=
  if b1 ∈ da_enc op j then da_in pc j + (p1 - 1) + 6 * (p0 - 1) else da_r1 op b0 pc p0 j
def da_r (st : List Nat) (pc : Nat) (p : Nat → Nat) (j : Nat) : Nat :=
  match st with
  | [] => da_r0 pc j (da_enc op j).length
  | [b0] => da_r1 op b0 pc (p b0) j
  | b1 :: b0 :: _ => da_r2 op b1 b0 pc (p b1) (p b0) j

theorem da_w0_pos (l : Nat) : 1 ≤ da_w0 l := by unfold da_w0; (repeat' split) <;> omega
theorem da_w1_mono {l a b : Nat} (h : a ≤ b) : da_w1 l a ≤ da_w1 l b := by unfold da_w1; split <;> omega
theorem da_w1_lt {l a b : Nat} (h : a < b) : da_w1 l a < da_w1 l b := by unfold da_w1; split <;> omega
theorem da_in_mono {pc pc' j : Nat} (h : pc ≤ j → pc' ≤ j) : da_in pc j ≤ da_in pc' j := by
  unfold da_in
  by_cases c : pc ≤ j
  · rw [if_pos c, if_pos (h c)]; exact Nat.le_refl _
  · rw [if_neg c]; exact Nat.zero_le _
theorem da_r0_mono {pc pc' j l : Nat} (h : pc ≤ j → pc' ≤ j) : da_r0 pc j l ≤ da_r0 pc' j l := by
  unfold da_r0
  by_cases c : pc ≤ j
  · rw [if_pos c, if_pos (h c)]; exact Nat.le_refl _
  · rw [if_neg c]; exact Nat.zero_le _
theorem da_r1_mono {b0 pc pc' p0 j : Nat} (h : pc ≤ j → pc' ≤ j) : da_r1 op b0 pc p0 j ≤ da_r1 op b0 pc' p0 j := by
  unfold da_r1
  have := da_in_mono h
  split
  · exact da_w1_mono (by omega)
  · exact da_r0_mono h
theorem da_r2_mono {b1 b0 pc pc' p1 p0 j : Nat} (h : pc ≤ j → pc' ≤ j) : da_r2 op b1 b0 pc p1 p0 j ≤ da_r2 op b1 b0 pc' p1 p0 j := by
  unfold da_r2
  have := da_in_mono h
  split
  · omega
  · exact da_r1_mono op h
theorem da_in_1 {pc j : Nat} (h : pc ≤ j) : da_in pc j = 1 := if_pos h
theorem da_in_0 {pc j : Nat} (h : j < pc) : da_in pc j = 0 := if_neg (by omega)
theorem da_r0_0 {pc j l : Nat} (h : j < pc) : da_r0 pc j l = 0 := if_neg (by omega)
theorem da_r0_lt {pc pc' l : Nat} (h : pc < pc') : da_r0 pc' pc l < da_r0 pc pc l := by
  unfold da_r0
  rw [if_neg (by omega), if_pos (Nat.le_refl _)]
  exact da_w0_pos l
theorem da_r1_lt {b0 pc pc' p0 : Nat} (h : pc < pc') : da_r1 op b0 pc' p0 pc < da_r1 op b0 pc p0 pc := by
  unfold da_r1
  rw [da_in_0 h, da_in_1 (Nat.le_refl _)]
  split
  · exact da_w1_lt (by omega)
  · exact da_r0_lt h
theorem da_r2_lt {b1 b0 pc pc' p1 p0 : Nat} (h : pc < pc') : da_r2 op b1 b0 pc' p1 p0 pc < da_r2 op b1 b0 pc p1 p0 pc := by
  unfold da_r2
  rw [da_in_0 h, da_in_1 (Nat.le_refl _)]
  split
  · omega
  · exact da_r1_lt op h

/-- the sum falls -/
def da_phi (n : Nat) (s : da_St) : Nat := da_sm (da_r op (da_enc op s.1) s.1 (fun b => (s.2.2.2 b).toNatClampNeg)) n

/-- on: the same running loops, the same passes, a later place -/
theorem da_fall_adv {n i i' : Nat} {st : List Nat} {p p' : Nat → Nat} (hi : i < n) (h : i < i') (hp : ∀ b, b ∈ st → p' b = p b) :
    da_sm (da_r op st i' p') n < da_sm (da_r op st i p) n := by
  refine da_sm_lt (i := i) n (fun j _ => ?_) hi ?_
  · unfold da_r
    match st, hp with
    | [], _ => exact da_r0_mono (by omega)
    | [b0], hp => simp only [hp b0 (by simp)]; exact da_r1_mono op (by omega)
    | b1 :: b0 :: _, hp => simp only [hp b0 (by simp), hp b1 (by simp)]; exact da_r2_mono op (by omega)
  · unfold da_r
    match st, hp with
    | [], _ => exact da_r0_lt h
    | [b0], hp => simp only [hp b0 (by simp)]; exact da_r1_lt op h
    | b1 :: b0 :: _, hp => simp only [hp b0 (by simp), hp b1 (by simp)]; exact da_r2_lt op h

/-- REPEAT -/
theorem da_fall_rep {n i : Nat} {st : List Nat} {p p' : Nat → Nat} (hi : i < n) (h9 : op i = 9) (he : da_enc op i = st) (hl : ∀ j, j ≤ n → (da_enc op j).length ≤ 2)
    (hp : ∀ b, b ∈ st → p' b = p b) (h6 : p' i ≤ 6) :
    da_sm (da_r op (i :: st) (i + 1) p') n < da_sm (da_r op st i p) n := by
  have hlen := hl (i + 1) (by omega)
  rw [da_enc_9 op h9, List.length_cons, he] at hlen
  have hs := da_enc_self op i
  cases st with
  | nil =>
    refine da_sm_lt (i := i) n (fun j hj => ?_) hi ?_
    · have hlj := hl j (by omega)
      show da_r1 op i (i + 1) (p' i) j ≤ da_r0 i j (da_enc op j).length
      unfold da_r1
      by_cases c : i ∈ da_enc op j
      · rw [if_pos c]
        obtain ⟨c1, _, l, c2⟩ := da_enc_mem op c
        have c3 : 1 ≤ (da_enc op j).length := by rw [c2, List.length_append, List.length_cons]; omega
        rw [da_in_1 (by omega)]
        unfold da_r0 da_w1 da_w0
        (repeat' split) <;> omega
      · rw [if_neg c]; exact da_r0_mono (by omega)
    · show da_r1 op i (i + 1) (p' i) i < da_r0 i i (da_enc op i).length
      unfold da_r1
      rw [if_neg hs]; exact da_r0_lt (by omega)
  | cons b0 t =>
    cases t with
    | nil =>
      refine da_sm_lt (i := i) n (fun j hj => ?_) hi ?_
      · have hlj := hl j (by omega)
        show da_r2 op i b0 (i + 1) (p' i) (p' b0) j ≤ da_r1 op b0 i (p b0) j
        rw [hp b0 (by simp)]
        unfold da_r2
        by_cases c : i ∈ da_enc op j
        · rw [if_pos c]
          obtain ⟨c1, _, l, c2⟩ := da_enc_mem op c
          rw [he] at c2
          have c3 : (da_enc op j).length = 2 := by
            have : (da_enc op j).length = l.length + 2 := by rw [c2]; simp
            omega
          have c4 : b0 ∈ da_enc op j := by rw [c2]; simp
          unfold da_r1
          rw [if_pos c4, c3, da_in_1 (by omega), da_in_1 (by omega)]
          unfold da_w1
          rw [if_neg (by omega)]
          omega
        · rw [if_neg c]; exact da_r1_mono op (by omega)
      · show da_r2 op i b0 (i + 1) (p' i) (p' b0) i < da_r1 op b0 i (p b0) i
        rw [hp b0 (by simp)]
        unfold da_r2
        rw [if_neg hs]; exact da_r1_lt op (by omega)
    | cons b1 t => rw [List.length_cons, List.length_cons] at hlen; omega

/-- END, another pass -/
theorem da_fall_back {n i b : Nat} {st : List Nat} {p p' : Nat → Nat} (hi : i < n) (he : da_enc op i = b :: st) (hl : (da_enc op i).length ≤ 2)
    (hp : ∀ c, c ∈ st → p' c = p c) (hb : p' b = p b - 1) (h2 : 2 ≤ p b) :
    da_sm (da_r op (b :: st) (b + 1) p') n < da_sm (da_r op (b :: st) i p) n := by
  have hbi : b ∈ da_enc op i := by rw [he]; simp
  have hout : ∀ j, ¬ b ∈ da_enc op j → b + 1 ≤ j → i ≤ j := by
    intro j h1 h3
    by_cases c : i ≤ j
    · exact c
    · exact absurd (da_enc_in op hbi (by omega) (by omega)) h1
  have cb := (da_enc_mem op hbi).1
  rw [he] at hl
  cases st with
  | nil =>
    refine da_sm_lt (i := i) n (fun j hj => ?_) hi ?_
    · show da_r1 op b (b + 1) (p' b) j ≤ da_r1 op b i (p b) j
      unfold da_r1
      by_cases c : b ∈ da_enc op j
      · have c1 := (da_enc_mem op c).1
        rw [if_pos c, if_pos c, da_in_1 (pc := b + 1) (by omega), hb]
        exact da_w1_mono (by omega)
      · rw [if_neg c, if_neg c]; exact da_r0_mono (hout j c)
    · show da_r1 op b (b + 1) (p' b) i < da_r1 op b i (p b) i
      unfold da_r1
      rw [if_pos hbi, if_pos hbi, da_in_1 (pc := b + 1) (by omega), da_in_1 (pc := i) (by omega), hb]
      exact da_w1_lt (by omega)
  | cons b0 t =>
    cases t with
    | nil =>
      refine da_sm_lt (i := i) n (fun j hj => ?_) hi ?_
      · show da_r2 op b b0 (b + 1) (p' b) (p' b0) j ≤ da_r2 op b b0 i (p b) (p b0) j
        rw [hp b0 (by simp)]
        unfold da_r2
        by_cases c : b ∈ da_enc op j
        · have c1 := (da_enc_mem op c).1
          rw [if_pos c, if_pos c, da_in_1 (pc := b + 1) (by omega), hb]
          omega
        · rw [if_neg c, if_neg c]; exact da_r1_mono op (hout j c)
      · show da_r2 op b b0 (b + 1) (p' b) (p' b0) i < da_r2 op b b0 i (p b) (p b0) i
        rw [hp b0 (by simp)]
        unfold da_r2
        rw [if_pos hbi, if_pos hbi, da_in_1 (pc := b + 1) (by omega), da_in_1 (pc := i) (by omega), hb]
        omega
    | cons b1 t => simp at hl

/-- END, the last pass -/
theorem da_fall_pop {n i b : Nat} {st : List Nat} {p p' : Nat → Nat} (hi : i < n) (h10 : op i = 10) (he : da_enc op i = b :: st)
    (hl : ∀ j, j ≤ n → (da_enc op j).length ≤ 2) (hp : ∀ c, c ∈ st → p' c = p c) :
    da_sm (da_r op st (i + 1) p') n < da_sm (da_r op (b :: st) i p) n := by
  have hbi : b ∈ da_enc op i := by rw [he]; simp
  have hbst : da_enc op b = st := (da_enc_hd op he).2.2
  have hb1 : ¬ b ∈ da_enc op (i + 1) := by
    rw [da_enc_10 op h10, he]
    show ¬ b ∈ st
    rw [← hbst]; exact da_enc_self op b
  have hle : ∀ j, b ∈ da_enc op j → j ≤ i := by
    intro j h1
    by_cases c : j ≤ i
    · exact c
    · have := da_enc_out op (b := b) (j := i + 1) (by have := (da_enc_mem op hbi).1; omega) hb1 (j - (i + 1))
      rw [show i + 1 + (j - (i + 1)) = j by omega] at this
      exact absurd h1 this
  have hlen := hl i (by omega)
  rw [he, List.length_cons] at hlen
  cases st with
  | nil =>
    refine da_sm_lt (i := i) n (fun j hj => ?_) hi ?_
    · show da_r0 (i + 1) j (da_enc op j).length ≤ da_r1 op b i (p b) j
      unfold da_r1
      by_cases c : b ∈ da_enc op j
      · have := hle j c
        rw [da_r0_0 (by omega)]; exact Nat.zero_le _
      · rw [if_neg c]; exact da_r0_mono (by omega)
    · show da_r0 (i + 1) i (da_enc op i).length < da_r1 op b i (p b) i
      rw [da_r0_0 (by omega)]
      unfold da_r1
      rw [if_pos hbi, da_in_1 (Nat.le_refl _)]
      unfold da_w1
      split <;> omega
  | cons b0 t =>
    cases t with
    | nil =>
      refine da_sm_lt (i := i) n (fun j hj => ?_) hi ?_
      · have hlj := hl j (by omega)
        show da_r1 op b0 (i + 1) (p' b0) j ≤ da_r2 op b b0 i (p b) (p b0) j
        rw [hp b0 (by simp)]
        unfold da_r2
        by_cases c : b ∈ da_enc op j
        · have := hle j c
          obtain ⟨c1, _, l, c2⟩ := da_enc_mem op c
          rw [hbst] at c2
          have c3 : (da_enc op j).length = 2 := by
            have : (da_enc op j).length = l.length + 2 := by rw [c2]; simp
            omega
          have c4 : b0 ∈ da_enc op j := by rw [c2]; simp
          rw [if_pos c]
          unfold da_r1
          rw [if_pos c4, c3, da_in_0 (by omega)]
          unfold da_w1
          rw [if_neg (by omega)]
          omega
        · rw [if_neg c]; exact da_r1_mono op (by omega)
      · show da_r1 op b0 (i + 1) (p' b0) i < da_r2 op b b0 i (p b) (p b0) i
        rw [hp b0 (by simp)]
        have hb0 : b0 ∈ da_enc op i := by rw [he]; simp
        have c3 : (da_enc op i).length = 2 := by rw [he]; simp
        unfold da_r2 da_r1
        rw [if_pos hbi, if_pos hb0, c3, da_in_1 (Nat.le_refl _), da_in_0 (by omega)]
        unfold da_w1
        rw [if_neg (by omega)]
        omega
    | cons b1 t => rw [List.length_cons, List.length_cons] at hlen; omega

/-- the step's own equations -/
theorem da_st_7 {s : da_St} (h : op s.1 = 7) : da_st op x y z s = (s.1 + 1, s.2.1, upd s.2.2.1 (da_cl y z s.1 s.2.1).toNatClampNeg (s.2.1 (x s.1).toNatClampNeg), s.2.2.2) := by
  unfold da_st; rw [if_pos h]
theorem da_st_8 {s : da_St} (h : op s.1 = 8) : da_st op x y z s = (if s.2.1 (x s.1).toNatClampNeg = 0 then s.1 + 1 + (y s.1).toNatClampNeg else s.1 + 1, s.2.1, s.2.2.1, s.2.2.2) := by
  unfold da_st; rw [if_neg (by rw [h]; decide), if_pos h]
theorem da_st_9 {s : da_St} (h : op s.1 = 9) : da_st op x y z s = (s.1 + 1, s.2.1, s.2.2.1, upd s.2.2.2 s.1 (x s.1)) := by
  unfold da_st; rw [if_neg (by rw [h]; decide), if_neg (by rw [h]; decide), if_pos h]
theorem da_st_10 {s : da_St} {b : Nat} {st : List Nat} (h : op s.1 = 10) (he : da_enc op s.1 = b :: st) : da_st op x y z s = (if 0 < s.2.2.2 b - 1 then b + 1 else s.1 + 1, s.2.1, s.2.2.1, upd s.2.2.2 b (s.2.2.2 b - 1)) := by
  have e : da_hd op s.1 = b := by unfold da_hd; rw [he]; rfl
  unfold da_st; rw [if_neg (by rw [h]; decide), if_neg (by rw [h]; decide), if_neg (by rw [h]; decide), if_pos h, e]
theorem da_st_t {s : da_St} (h7 : ¬ op s.1 = 7) (h8 : ¬ op s.1 = 8) (h9 : ¬ op s.1 = 9) (h10 : ¬ op s.1 = 10) :
    da_st op x y z s = (s.1 + 1, upd s.2.1 (x s.1).toNatClampNeg (da_tv op y z s.1 s.2.1 s.2.2.1), s.2.2.1, s.2.2.2) := by
  unfold da_st; rw [if_neg h7, if_neg h8, if_neg h9, if_neg h10]

theorem da_dec1 {p : Nat} (h : 1 ≤ p) (h6 : p ≤ 6) : nI p - 1 = nI (p - 1) := by
  obtain ⟨q, rfl⟩ : ∃ q, p = q + 1 := ⟨p - 1, by omega⟩
  rw [nI_pred]; rfl
theorem da_dec0 {p : Nat} (h6 : p ≤ 6) : 0 < nI p ↔ 1 ≤ p := by
  rw [← nI_0, nI_ltI (by omega) (by omega)]; omega

theorem da_stI {n : Nat} (G : da_G op x y z n) (s : da_St) (I : da_I op n s) (hn : s.1 < n) :
    da_I op n (da_st op x y z s) ∧ da_phi op n (da_st op x y z s) < da_phi op n s := by
  obtain ⟨hn24, hok, hl, _, hE, hS⟩ := G
  obtain ⟨pc, R, M, L⟩ := s
  obtain ⟨I1, I2⟩ := I
  dsimp only at I1 I2 hn
  have adv : ∀ (pc' : Nat) (R' M' : Nat → Int32), pc < pc' → pc' ≤ n → da_enc op pc' = da_enc op pc →
      da_I op n (pc', R', M', L) ∧ da_phi op n (pc', R', M', L) < da_phi op n (pc, R, M, L) := by
    intro pc' R' M' h1 h2 h3
    refine ⟨⟨h2, ?_⟩, ?_⟩
    · show ∀ b, b ∈ da_enc op pc' → _
      rw [h3]; exact I2
    · unfold da_phi
      dsimp only
      rw [h3]
      exact da_fall_adv op hn h1 (fun _ _ => rfl)
  by_cases h7 : op pc = 7
  · rw [da_st_7 op x y z (s := (pc, R, M, L)) h7]
    dsimp only
    exact adv _ _ _ (Nat.lt_succ_self _) hn (da_enc_o op (by rw [h7]; decide) (by rw [h7]; decide))
  by_cases h8 : op pc = 8
  · rw [da_st_8 op x y z (s := (pc, R, M, L)) h8]
    dsimp only
    have e1 : da_enc op (pc + 1) = da_enc op pc := da_enc_o op (by rw [h8]; decide) (by rw [h8]; decide)
    have := hS pc hn h8
    split
    · exact adv _ _ _ (by omega) (by omega) (this.2.trans e1)
    · exact adv _ _ _ (Nat.lt_succ_self _) hn e1
  by_cases h9 : op pc = 9
  · rw [da_st_9 op x y z (s := (pc, R, M, L)) h9]
    dsimp only
    obtain ⟨a, ha1, ha6, hx⟩ : ∃ a : Nat, 1 ≤ a ∧ a ≤ 6 ∧ x pc = nI a := by
      rcases hok pc hn with ⟨k, _, _, _, hk, _, _, _, ho, _⟩ | ⟨k, _, _, _, hk, _, _, ho, _⟩ | ⟨_, _, _, _, _, ho, _⟩ | ⟨a, h1, h2, _, h3⟩ | ho
      · rw [h9] at ho
        exact absurd ((nI_eq (a := 9) (by omega) (by omega)).mp ho) (by omega)
      · rw [h9] at ho
        exact absurd ((nI_eq (a := 9) (by omega) (by omega)).mp ho) (by omega)
      · rw [h9] at ho; exact absurd ho (by decide)
      · exact ⟨a, h1, h2, h3⟩
      · rw [h9] at ho; exact absurd ho (by decide)
    refine ⟨⟨hn, ?_⟩, ?_⟩
    · show ∀ b, b ∈ da_enc op (pc + 1) → ∃ p : Nat, 1 ≤ p ∧ p ≤ 6 ∧ upd L pc (x pc) b = nI p
      rw [da_enc_9 op h9]
      intro b hb
      rcases List.mem_cons.mp hb with e | e
      · rw [e]; exact ⟨a, ha1, ha6, by rw [pk_us, hx]⟩
      · have := (da_enc_mem op e).1
        rw [pk_un (by omega)]; exact I2 b e
    · unfold da_phi
      dsimp only
      rw [da_enc_9 op h9]
      refine da_fall_rep op hn h9 rfl hl (fun b hb => ?_) ?_
      · have := (da_enc_mem op hb).1
        show (upd L pc (x pc) b).toNatClampNeg = (L b).toNatClampNeg
        rw [pk_un (by omega)]
      · show (upd L pc (x pc) pc).toNatClampNeg ≤ 6
        rw [pk_us, hx, nI_clamp (by omega)]; exact ha6
  by_cases h10 : op pc = 10
  · cases he : da_enc op pc with
    | nil => exact absurd he (hE pc hn h10)
    | cons b st =>
      rw [da_st_10 op x y z (s := (pc, R, M, L)) h10 he]
      dsimp only
      obtain ⟨hb1, hb2, hb3⟩ := da_enc_hd op he
      obtain ⟨p, hp1, hp6, hp⟩ := I2 b (by rw [he]; simp)
      simp only [hp, da_dec1 hp1 hp6]
      have hst : ∀ c, c ∈ st → c < b := by
        intro c hc
        rw [← hb3] at hc
        exact (da_enc_mem op hc).1
      have hp' : ∀ c, c ∈ st → (upd L b (nI (p - 1)) c).toNatClampNeg = (L c).toNatClampNeg := by
        intro c hc
        have := hst c hc
        rw [pk_un (by omega)]
      by_cases c : 1 ≤ p - 1
      · rw [if_pos ((da_dec0 (by omega)).mpr c)]
        have e1 : da_enc op (b + 1) = da_enc op pc := by rw [da_enc_9 op hb2, hb3, he]
        refine ⟨⟨by show b + 1 ≤ n; omega, ?_⟩, ?_⟩
        · show ∀ d, d ∈ da_enc op (b + 1) → ∃ q : Nat, 1 ≤ q ∧ q ≤ 6 ∧ upd L b (nI (p - 1)) d = nI q
          intro d hd
          rw [e1] at hd
          by_cases e : d = b
          · rw [e, pk_us]; exact ⟨p - 1, by omega, by omega, rfl⟩
          · rw [pk_un e]; exact I2 d hd
        · unfold da_phi
          dsimp only
          rw [e1, he]
          refine da_fall_back op hn he (hl pc (by omega)) hp' ?_ ?_
          · show (upd L b (nI (p - 1)) b).toNatClampNeg = (L b).toNatClampNeg - 1
            rw [pk_us, hp, nI_clamp (by omega), nI_clamp (by omega)]
          · show 2 ≤ (L b).toNatClampNeg
            rw [hp, nI_clamp (by omega)]; omega
      · rw [if_neg (fun h => c ((da_dec0 (by omega)).mp h))]
        have e1 : da_enc op (pc + 1) = st := by rw [da_enc_10 op h10, he]; rfl
        refine ⟨⟨hn, ?_⟩, ?_⟩
        · show ∀ d, d ∈ da_enc op (pc + 1) → ∃ q : Nat, 1 ≤ q ∧ q ≤ 6 ∧ upd L b (nI (p - 1)) d = nI q
          intro d hd
          rw [e1] at hd
          have := hst d hd
          rw [pk_un (by omega)]
          exact I2 d (by rw [he]; exact List.mem_cons_of_mem _ hd)
        · unfold da_phi
          dsimp only
          rw [e1, he]
          exact da_fall_pop op hn h10 he hl hp'
  rw [da_st_t op x y z (s := (pc, R, M, L)) h7 h8 h9 h10]
  dsimp only
  exact adv _ _ _ (Nat.lt_succ_self _) hn (da_enc_o op h9 h10)

theorem da_run {n : Nat} (G : da_G op x y z n) : ∀ (m : Nat) (s : da_St), da_I op n s → da_phi op n s ≤ m →
    ∃ K, K ≤ m ∧ (da_tr op x y z s K).1 = n ∧ (∀ k, k < K → (da_tr op x y z s k).1 < n) ∧ (∀ k, k ≤ K → da_I op n (da_tr op x y z s k)) := by
  intro m
  induction m with
  | zero =>
    intro s I h
    have hn : s.1 = n := by
      by_cases c : s.1 < n
      · have := (da_stI op x y z G s I c).2; omega
      · have := I.1; omega
    exact ⟨0, by omega, hn, fun k hk => by omega, fun k hk => by rw [show k = 0 by omega]; exact I⟩
  | succ m ih =>
    intro s I h
    by_cases c : s.1 < n
    · obtain ⟨I', f⟩ := da_stI op x y z G s I c
      obtain ⟨K, k1, k2, k3, k4⟩ := ih _ I' (by omega)
      refine ⟨K + 1, by omega, by rw [← da_tr_s]; exact k2, fun k hk => ?_, fun k hk => ?_⟩
      · cases k with
        | zero => exact c
        | succ k => rw [← da_tr_s]; exact k3 k (by omega)
      · cases k with
        | zero => exact I
        | succ k => rw [← da_tr_s]; exact k4 k (by omega)
    · have := I.1
      exact ⟨0, by omega, by show s.1 = n; omega, fun k hk => by omega, fun k hk => by rw [show k = 0 by omega]; exact I⟩

theorem da_w0_le (l : Nat) : da_w0 l ≤ 36 := by unfold da_w0; (repeat' split) <;> omega
/-- the whole run: at most 864 steps -/
theorem da_run0 {n : Nat} (G : da_G op x y z n) (R M L : Nat → Int32) :
    ∃ K, K ≤ 864 ∧ (da_tr op x y z (0, R, M, L) K).1 = n ∧ (∀ k, k < K → (da_tr op x y z (0, R, M, L) k).1 < n) ∧
      (∀ k, k ≤ K → da_I op n (da_tr op x y z (0, R, M, L) k)) := by
  refine da_run op x y z G 864 (0, R, M, L) ⟨Nat.zero_le _, fun b hb => ?_⟩ ?_
  · have hb : b ∈ ([] : List Nat) := hb
    cases hb
  · have h := da_sm_bd (f := da_r op [] 0 (fun b => (L b).toNatClampNeg)) (c := 36) n (fun j _ => by
      show da_r0 0 j (da_enc op j).length ≤ 36
      unfold da_r0
      rw [if_pos (Nat.zero_le _)]
      exact da_w0_le _)
    have := G.1
    show da_sm (da_r op [] 0 (fun b => (L b).toNatClampNeg)) n ≤ 864
    omega
end
end
section
/-! The address side: both rounds end in the least closed set -/
theorem da_orN (a b : Nat) : nI a ||| nI b = nI (a ||| b) := by
  apply Int32.toBitVec_inj.1
  show BitVec.ofNat 32 a ||| BitVec.ofNat 32 b = BitVec.ofNat 32 (a ||| b)
  apply BitVec.eq_of_getLsbD_eq
  intro i hi
  simp [hi]
theorem da_sh1 : ∀ k, k < 8 → (1 : Int32) <<< (nI k &&& 31) = nI (2 ^ k) := by decide +kernel
theorem da_bit : ∀ m, m < 256 → ∀ k, k < 8 → ((nI m >>> (nI k &&& 31)) &&& 1) = nI (if m.testBit k = true then 1 else 0) := by decide +kernel
theorem da_pw : ∀ k, k < 8 → 2 ^ k < 256 := by decide
theorem da_or256 {a b : Nat} (ha : a < 256) (hb : b < 256) : a ||| b < 256 := Nat.or_lt_two_pow (n := 8) ha hb

def da_sub (a b : Nat) : Prop := ∀ r, a.testBit r = true → b.testBit r = true
theorem da_sub_r (a : Nat) : da_sub a a := fun _ h => h
theorem da_sub_t {a b c : Nat} (h : da_sub a b) (h' : da_sub b c) : da_sub a c := fun r e => h' r (h r e)
theorem da_sub_a {a b : Nat} (h : da_sub a b) (h' : da_sub b a) : a = b := by
  apply Nat.eq_of_testBit_eq
  intro i
  have h1 := h i
  have h2 := h' i
  cases e : a.testBit i with
  | true => exact (h1 e).symm
  | false =>
    cases e' : b.testBit i with
    | true => rw [h2 e'] at e; exact absurd e (by decide)
    | false => rfl
theorem da_sub_l (a b : Nat) : da_sub a (a ||| b) := fun r h => by rw [Nat.testBit_or, h]; rfl
theorem da_sub_o {a b c : Nat} (h : da_sub a c) (h' : da_sub b c) : da_sub (a ||| b) c := by
  intro r e
  rw [Nat.testBit_or, Bool.or_eq_true] at e
  rcases e with e | e
  · exact h r e
  · exact h' r e
theorem da_sub_2 {k c : Nat} (h : c.testBit k = true) : da_sub (2 ^ k) c := by
  intro r e
  rw [Nat.testBit_two_pow] at e
  rw [← of_decide_eq_true e]; exact h
theorem da_sub_0 (c : Nat) : da_sub 0 c := by
  intro r e
  rw [Nat.zero_testBit] at e
  exact absurd e (by decide)
theorem da_or_has {m k : Nat} (h : m ||| 2 ^ k = m) : m.testBit k = true := by
  rw [← h, Nat.testBit_or, Nat.testBit_two_pow_self, Bool.or_true]

def da_fd (f : Nat → Nat → Nat) : Nat → Nat → Nat
  | 0, m => m
  | n + 1, m => f n (da_fd f n m)
def da_it (g : Nat → Nat) : Nat → Nat → Nat
  | 0, m => m
  | t + 1, m => g (da_it g t m)

def da_cnt (m : Nat) : Nat := da_sm (fun r => if m.testBit r = true then 1 else 0) 8
theorem da_cnt8 (m : Nat) : da_cnt m ≤ 8 := by
  have := da_sm_bd (f := fun r => if m.testBit r = true then 1 else 0) (c := 1) 8 (fun j _ => by split <;> omega)
  unfold da_cnt; omega
theorem da_cnt_lt {a b : Nat} (ha : a < 256) (hb : b < 256) (h : da_sub a b) (hn : ¬ b = a) : da_cnt a < da_cnt b := by
  have hex : ∃ r, r < 8 ∧ a.testBit r = false ∧ b.testBit r = true := by
    apply Classical.byContradiction
    intro hx
    apply hn
    refine da_sub_a ?_ h
    intro r e
    by_cases c : r < 8
    · cases e' : a.testBit r with
      | true => rfl
      | false => exact absurd ⟨r, c, e', e⟩ hx
    · have h8 : 2 ^ 8 ≤ 2 ^ r := Nat.pow_le_pow_right (by decide) (by omega)
      have hp : b < 2 ^ r := Nat.lt_of_lt_of_le (show b < 2 ^ 8 from hb) h8
      rw [Nat.testBit_lt_two_pow hp] at e
      exact absurd e (by decide)
  obtain ⟨r, hr, e1, e2⟩ := hex
  refine da_sm_lt (i := r) 8 (fun j _ => ?_) hr ?_
  · by_cases c : a.testBit j = true
    · rw [if_pos c, if_pos (h j c)]; exact Nat.le_refl _
    · rw [if_neg c]; exact Nat.zero_le _
  · rw [e1, e2]; decide

theorem da_fix (g : Nat → Nat) (hg : ∀ m, m < 256 → da_sub m (g m) ∧ g m < 256) (m : Nat) (hm : m < 256) :
    ∀ t, da_it g t m < 256 ∧ (g (da_it g t m) = da_it g t m ∨ t ≤ da_cnt (da_it g t m)) := by
  intro t
  induction t with
  | zero => exact ⟨hm, Or.inr (Nat.zero_le _)⟩
  | succ t ih =>
    obtain ⟨h1, h2⟩ := ih
    obtain ⟨g1, g2⟩ := hg _ h1
    refine ⟨g2, ?_⟩
    show g (g (da_it g t m)) = g (da_it g t m) ∨ t + 1 ≤ da_cnt (g (da_it g t m))
    by_cases c : g (da_it g t m) = da_it g t m
    · left; rw [c, c]
    · right
      have := da_cnt_lt h1 g2 g1 c
      rcases h2 with h2 | h2
      · exact absurd h2 c
      · omega
theorem da_fix8 (g : Nat → Nat) (hg : ∀ m, m < 256 → da_sub m (g m) ∧ g m < 256) (m : Nat) (hm : m < 256) (t : Nat) (ht : 8 ≤ t) :
    g (da_it g t m) = da_it g t m := by
  obtain ⟨h1, h2⟩ := da_fix g hg m hm t
  rcases h2 with h2 | h2
  · exact h2
  · apply Classical.byContradiction
    intro c
    obtain ⟨g1, g2⟩ := hg _ h1
    have := da_cnt_lt h1 g2 g1 c
    have := da_cnt8 (g (da_it g t m))
    omega
theorem da_it_sub (g : Nat → Nat) (c : Nat) (hg : ∀ m, da_sub m c → da_sub (g m) c) (m : Nat) (hm : da_sub m c) : ∀ t, da_sub (da_it g t m) c := by
  intro t
  induction t with
  | zero => exact hm
  | succ t ih => exact hg _ ih
theorem da_it_infl (g : Nat → Nat) (hg : ∀ m, da_sub m (g m)) (m : Nat) : ∀ t, da_sub m (da_it g t m) := by
  intro t
  induction t with
  | zero => exact da_sub_r m
  | succ t ih => exact da_sub_t ih (hg _)
theorem da_fd_sub (f : Nat → Nat → Nat) (c n : Nat) (hf : ∀ i m, i < n → da_sub m c → da_sub (f i m) c) (m : Nat) (hm : da_sub m c) : ∀ k, k ≤ n → da_sub (da_fd f k m) c := by
  intro k
  induction k with
  | zero => intro _; exact hm
  | succ k ih => intro hk; exact hf k _ (by omega) (ih (by omega))
theorem da_fd_infl (f : Nat → Nat → Nat) (hf : ∀ i m, da_sub m (f i m)) (m : Nat) (j : Nat) : ∀ k, da_sub (da_fd f j m) (da_fd f (j + k) m) := by
  intro k
  induction k with
  | zero => exact da_sub_r _
  | succ k ih => exact da_sub_t ih (hf _ _)
theorem da_fd_256 (f : Nat → Nat → Nat) (n : Nat) (hf : ∀ i m, i < n → m < 256 → f i m < 256) (m : Nat) (hm : m < 256) : ∀ k, k ≤ n → da_fd f k m < 256 := by
  intro k
  induction k with
  | zero => intro _; exact hm
  | succ k ih => intro hk; exact hf k _ (by omega) (ih (by omega))
theorem da_fd_fix (f : Nat → Nat → Nat) (hf : ∀ i m, da_sub m (f i m)) (m n : Nat) (h : da_fd f n m = m) : ∀ i, i < n → f i m = m := by
  have hk : ∀ k, k ≤ n → da_fd f k m = m := by
    intro k hk
    refine da_sub_a ?_ ?_
    · have := da_fd_infl f hf m k (n - k)
      rw [show k + (n - k) = n by omega, h] at this
      exact this
    · have := da_fd_infl f hf m 0 k
      rw [Nat.zero_add] at this
      exact this
  intro i hi
  have h1 := hk (i + 1) (by omega)
  have h2 := hk i (by omega)
  rw [da_fd, h2] at h1
  exact h1

section
variable (op x y z : Nat → Int32)
def da_am (i : Nat) : Nat :=
  if op i = 6 ∨ op i = 7 then 2 ^ (y i).toNatClampNeg else if op i = 8 then 2 ^ (x i).toNatClampNeg else 0
def da_so (i : Nat) : Nat :=
  if op i ≤ 4 then 2 ^ (y i).toNatClampNeg ||| 2 ^ (z i).toNatClampNeg else 2 ^ (y i).toNatClampNeg
def da_xs (i m : Nat) : Nat := m ||| da_am op x y i
def da_xr (i m : Nat) : Nat := if op i ≤ 6 ∧ m.testBit (x i).toNatClampNeg = true then m ||| da_so op y z i else m
def da_y1 (i m : Nat) : Nat := if op i = 6 ∨ op i = 7 then m ||| 2 ^ (y i).toNatClampNeg else m
def da_y2 (i m : Nat) : Nat := if op i = 8 then m ||| 2 ^ (x i).toNatClampNeg else m
def da_y3 (i m : Nat) : Nat := if op i ≤ 6 ∧ m.testBit (x i).toNatClampNeg = true then m ||| 2 ^ (y i).toNatClampNeg else m
def da_y4 (i m : Nat) : Nat := if op i ≤ 4 ∧ m.testBit (x i).toNatClampNeg = true then m ||| 2 ^ (z i).toNatClampNeg else m
def da_yg (i m : Nat) : Nat := da_y4 op x z i (da_y3 op x y i (da_y2 op x i (da_y1 op y i m)))
/-- X's side, Y's side -/
def da_X (n : Nat) : Nat := da_it (da_fd (da_xr op x y z) n) 8 (da_fd (da_xs op x y) n 0)
def da_Y (n : Nat) : Nat := da_it (da_fd (da_yg op x y z) n) 9 0

def da_C (n c : Nat) : Prop := ∀ i, i < n →
  (op i = 6 ∨ op i = 7 → c.testBit (y i).toNatClampNeg = true) ∧ (op i = 8 → c.testBit (x i).toNatClampNeg = true) ∧
  (op i ≤ 6 → c.testBit (x i).toNatClampNeg = true → c.testBit (y i).toNatClampNeg = true) ∧
  (op i ≤ 4 → c.testBit (x i).toNatClampNeg = true → c.testBit (z i).toNatClampNeg = true)

theorem da_46 {v : Int32} (h : v ≤ 4) : v ≤ 6 := Int32.le_trans h (by decide)

theorem da_xs_i (i m : Nat) : da_sub m (da_xs op x y i m) := da_sub_l _ _
theorem da_xr_i (i m : Nat) : da_sub m (da_xr op x y z i m) := by
  unfold da_xr; split
  · exact da_sub_l _ _
  · exact da_sub_r _
theorem da_y1_i (i m : Nat) : da_sub m (da_y1 op y i m) := by
  unfold da_y1; split
  · exact da_sub_l _ _
  · exact da_sub_r _
theorem da_y2_i (i m : Nat) : da_sub m (da_y2 op x i m) := by
  unfold da_y2; split
  · exact da_sub_l _ _
  · exact da_sub_r _
theorem da_y3_i (i m : Nat) : da_sub m (da_y3 op x y i m) := by
  unfold da_y3; split
  · exact da_sub_l _ _
  · exact da_sub_r _
theorem da_y4_i (i m : Nat) : da_sub m (da_y4 op x z i m) := by
  unfold da_y4; split
  · exact da_sub_l _ _
  · exact da_sub_r _
theorem da_yg_i (i m : Nat) : da_sub m (da_yg op x y z i m) :=
  da_sub_t (da_y1_i op y i m) (da_sub_t (da_y2_i op x i _) (da_sub_t (da_y3_i op x y i _) (da_y4_i op x z i _)))

theorem da_xs_c {n c : Nat} (C : da_C op x y z n c) (i m : Nat) (hi : i < n) (h : da_sub m c) : da_sub (da_xs op x y i m) c := by
  obtain ⟨c1, c2, _, _⟩ := C i hi
  unfold da_xs da_am
  refine da_sub_o h ?_
  split
  · exact da_sub_2 (c1 ‹_›)
  · split
    · exact da_sub_2 (c2 ‹_›)
    · exact da_sub_0 c
theorem da_xr_c {n c : Nat} (C : da_C op x y z n c) (i m : Nat) (hi : i < n) (h : da_sub m c) : da_sub (da_xr op x y z i m) c := by
  obtain ⟨_, _, c3, c4⟩ := C i hi
  unfold da_xr
  by_cases e : op i ≤ 6 ∧ m.testBit (x i).toNatClampNeg = true
  · rw [if_pos e]
    refine da_sub_o h ?_
    have hx := h _ e.2
    unfold da_so
    by_cases e4 : op i ≤ 4
    · rw [if_pos e4]; exact da_sub_o (da_sub_2 (c3 e.1 hx)) (da_sub_2 (c4 e4 hx))
    · rw [if_neg e4]; exact da_sub_2 (c3 e.1 hx)
  · rw [if_neg e]; exact h
theorem da_yg_c {n c : Nat} (C : da_C op x y z n c) (i m : Nat) (hi : i < n) (h : da_sub m c) : da_sub (da_yg op x y z i m) c := by
  obtain ⟨c1, c2, c3, c4⟩ := C i hi
  have h1 : da_sub (da_y1 op y i m) c := by
    unfold da_y1
    by_cases e : op i = 6 ∨ op i = 7
    · rw [if_pos e]; exact da_sub_o h (da_sub_2 (c1 e))
    · rw [if_neg e]; exact h
  have h2 : da_sub (da_y2 op x i (da_y1 op y i m)) c := by
    unfold da_y2
    by_cases e : op i = 8
    · rw [if_pos e]; exact da_sub_o h1 (da_sub_2 (c2 e))
    · rw [if_neg e]; exact h1
  have h3 : da_sub (da_y3 op x y i (da_y2 op x i (da_y1 op y i m))) c := by
    unfold da_y3
    split
    · rename_i e
      exact da_sub_o h2 (da_sub_2 (c3 e.1 (h2 _ e.2)))
    · exact h2
  unfold da_yg da_y4
  split
  · rename_i e
    exact da_sub_o h3 (da_sub_2 (c4 e.1 (h3 _ e.2)))
  · exact h3

/-- registers of the instructions are below 8 where they are read -/
def da_B (n : Nat) : Prop := ∀ i, i < n → (op i ≤ 7 → (y i).toNatClampNeg < 8) ∧ (op i = 8 → (x i).toNatClampNeg < 8) ∧ (op i ≤ 4 → (z i).toNatClampNeg < 8)

theorem da_xs_b {n : Nat} (B : da_B op x y z n) (i m : Nat) (hi : i < n) (h : m < 256) : da_xs op x y i m < 256 := by
  obtain ⟨b1, b2, _⟩ := B i hi
  unfold da_xs da_am
  refine da_or256 h ?_
  split
  · rename_i e
    refine da_pw _ (b1 ?_)
    rcases e with e | e
    · rw [e]; decide
    · rw [e]; decide
  · split
    · exact da_pw _ (b2 ‹_›)
    · decide
theorem da_67 {v : Int32} (h : v ≤ 6) : v ≤ 7 := Int32.le_trans h (by decide)
theorem da_xr_b {n : Nat} (B : da_B op x y z n) (i m : Nat) (hi : i < n) (h : m < 256) : da_xr op x y z i m < 256 := by
  obtain ⟨b1, _, b3⟩ := B i hi
  unfold da_xr da_so
  split
  · rename_i e
    have hy := da_pw _ (b1 (da_67 e.1))
    refine da_or256 h ?_
    split
    · exact da_or256 hy (da_pw _ (b3 ‹_›))
    · exact hy
  · exact h
theorem da_yg_b {n : Nat} (B : da_B op x y z n) (i m : Nat) (hi : i < n) (h : m < 256) : da_y1 op y i m < 256 ∧ da_y2 op x i (da_y1 op y i m) < 256 ∧ da_y3 op x y i (da_y2 op x i (da_y1 op y i m)) < 256 ∧ da_yg op x y z i m < 256 := by
  obtain ⟨b1, b2, b3⟩ := B i hi
  have h1 : da_y1 op y i m < 256 := by
    unfold da_y1; split
    · rename_i e
      refine da_or256 h (da_pw _ (b1 ?_))
      rcases e with e | e
      · rw [e]; decide
      · rw [e]; decide
    · exact h
  have h2 : da_y2 op x i (da_y1 op y i m) < 256 := by
    unfold da_y2; split
    · exact da_or256 h1 (da_pw _ (b2 ‹_›))
    · exact h1
  have h3 : da_y3 op x y i (da_y2 op x i (da_y1 op y i m)) < 256 := by
    unfold da_y3; split
    · rename_i e
      exact da_or256 h2 (da_pw _ (b1 (da_67 e.1)))
    · exact h2
  refine ⟨h1, h2, h3, ?_⟩
  unfold da_yg da_y4; split
  · rename_i e
    exact da_or256 h3 (da_pw _ (b3 e.1))
  · exact h3

theorem da_X_b {n : Nat} (B : da_B op x y z n) : da_fd (da_xs op x y) n 0 < 256 :=
  da_fd_256 _ n (da_xs_b op x y z B) 0 (by decide) n (Nat.le_refl _)
theorem da_xr_g {n : Nat} (B : da_B op x y z n) (m : Nat) (hm : m < 256) : da_sub m (da_fd (da_xr op x y z) n m) ∧ da_fd (da_xr op x y z) n m < 256 := by
  refine ⟨?_, da_fd_256 _ n (da_xr_b op x y z B) m hm n (Nat.le_refl _)⟩
  have := da_fd_infl (da_xr op x y z) (da_xr_i op x y z) m 0 n
  rw [Nat.zero_add] at this
  exact this
theorem da_yg_g {n : Nat} (B : da_B op x y z n) (m : Nat) (hm : m < 256) : da_sub m (da_fd (da_yg op x y z) n m) ∧ da_fd (da_yg op x y z) n m < 256 := by
  refine ⟨?_, da_fd_256 _ n (fun i m hi h => (da_yg_b op x y z B i m hi h).2.2.2) m hm n (Nat.le_refl _)⟩
  have := da_fd_infl (da_yg op x y z) (da_yg_i op x y z) m 0 n
  rw [Nat.zero_add] at this
  exact this
theorem da_X_256 {n : Nat} (B : da_B op x y z n) : da_X op x y z n < 256 :=
  (da_fix _ (da_xr_g op x y z B) _ (da_X_b op x y z B) 8).1

theorem da_X_C {n : Nat} (B : da_B op x y z n) : da_C op x y z n (da_X op x y z n) := by
  have hfix := da_fix8 _ (da_xr_g op x y z B) _ (da_X_b op x y z B) 8 (by decide)
  have hi := da_fd_fix _ (da_xr_i op x y z) _ _ hfix
  have hseed : da_sub (da_fd (da_xs op x y) n 0) (da_X op x y z n) := by
    refine da_it_infl _ (fun m => ?_) _ 8
    have := da_fd_infl (da_xr op x y z) (da_xr_i op x y z) m 0 n
    rw [Nat.zero_add] at this
    exact this
  intro i hin
  have hs : da_sub (da_am op x y i) (da_X op x y z n) := by
    refine da_sub_t ?_ hseed
    have h1 := da_fd_infl (da_xs op x y) (da_xs_i op x y) 0 (i + 1) (n - (i + 1))
    rw [show i + 1 + (n - (i + 1)) = n by omega] at h1
    refine da_sub_t ?_ h1
    intro r e
    show (da_fd (da_xs op x y) i 0 ||| da_am op x y i).testBit r = true
    rw [Nat.testBit_or, e, Bool.or_true]
  have hr : da_xr op x y z i (da_X op x y z n) = da_X op x y z n := hi i hin
  unfold da_am at hs
  refine ⟨fun e => ?_, fun e => ?_, fun e hx => ?_, fun e hx => ?_⟩
  · rw [if_pos e] at hs
    exact hs _ Nat.testBit_two_pow_self
  · rw [if_neg (by rw [e]; decide), if_pos e] at hs
    exact hs _ Nat.testBit_two_pow_self
  · unfold da_xr at hr
    rw [if_pos ⟨e, hx⟩] at hr
    rw [← hr, Nat.testBit_or]
    unfold da_so
    split
    · rw [Nat.testBit_or, Nat.testBit_two_pow_self]; simp
    · rw [Nat.testBit_two_pow_self]; simp
  · unfold da_xr at hr
    rw [if_pos ⟨da_46 e, hx⟩] at hr
    rw [← hr, Nat.testBit_or]
    unfold da_so
    rw [if_pos e, Nat.testBit_or, Nat.testBit_two_pow_self]; simp

theorem da_Y_C {n : Nat} (B : da_B op x y z n) : da_C op x y z n (da_Y op x y z n) := by
  have hfix := da_fix8 _ (da_yg_g op x y z B) 0 (by decide) 9 (by decide)
  have hi := da_fd_fix _ (da_yg_i op x y z) _ _ hfix
  intro i hin
  have hr : da_yg op x y z i (da_Y op x y z n) = da_Y op x y z n := hi i hin
  generalize da_Y op x y z n = m at hr ⊢
  have s1 := da_y1_i op y i m
  have s2 := da_y2_i op x i (da_y1 op y i m)
  have s3 := da_y3_i op x y i (da_y2 op x i (da_y1 op y i m))
  have s4 := da_y4_i op x z i (da_y3 op x y i (da_y2 op x i (da_y1 op y i m)))
  have s4' : da_sub (da_y4 op x z i (da_y3 op x y i (da_y2 op x i (da_y1 op y i m)))) m := by
    intro r e
    have hr' : da_y4 op x z i (da_y3 op x y i (da_y2 op x i (da_y1 op y i m))) = m := hr
    rw [hr'] at e; exact e
  have e1 : da_y1 op y i m = m := da_sub_a (da_sub_t s2 (da_sub_t s3 (da_sub_t s4 s4'))) s1
  rw [e1] at s2 s3 s4 s4'
  have e2 : da_y2 op x i m = m := da_sub_a (da_sub_t s3 (da_sub_t s4 s4')) s2
  rw [e2] at s3 s4 s4'
  have e3 : da_y3 op x y i m = m := da_sub_a (da_sub_t s4 s4') s3
  rw [e3] at s4 s4'
  have e4 : da_y4 op x z i m = m := da_sub_a s4' s4
  unfold da_y1 at e1
  unfold da_y2 at e2
  unfold da_y3 at e3
  unfold da_y4 at e4
  refine ⟨fun e => ?_, fun e => ?_, fun e hx => ?_, fun e hx => ?_⟩
  · rw [if_pos e] at e1; exact da_or_has e1
  · rw [if_pos e] at e2; exact da_or_has e2
  · rw [if_pos ⟨e, hx⟩] at e3; exact da_or_has e3
  · rw [if_pos ⟨e, hx⟩] at e4; exact da_or_has e4

theorem da_XY {n : Nat} (B : da_B op x y z n) : da_X op x y z n = da_Y op x y z n := by
  refine da_sub_a ?_ ?_
  · have C := da_Y_C op x y z B
    refine da_it_sub _ _ (fun m hm => da_fd_sub _ _ n (da_xr_c op x y z C) m hm n (Nat.le_refl _)) _ ?_ 8
    exact da_fd_sub _ _ n (da_xs_c op x y z C) 0 (da_sub_0 _) n (Nat.le_refl _)
  · have C := da_X_C op x y z B
    exact da_it_sub _ _ (fun m hm => da_fd_sub _ _ n (da_yg_c op x y z C) m hm n (Nat.le_refl _)) _ (da_sub_0 _) 9
end
end
section
/-! Queues, stacks of running loops, what the two halves say of the trace -/
def da_ls (f : Nat → List Int32) : Nat → Nat → List Int32
  | 0, _ => []
  | m + 1, k => f k ++ da_ls f m (k + 1)
theorem da_ls_s (f : Nat → List Int32) : ∀ m k, da_ls f (m + 1) k = da_ls f m k ++ f (k + m) := by
  intro m
  induction m with
  | zero => intro k; show f k ++ [] = [] ++ f (k + 0); simp
  | succ m ih =>
    intro k
    show f k ++ da_ls f (m + 1) (k + 1) = (f k ++ da_ls f m (k + 1)) ++ f (k + (m + 1))
    rw [ih (k + 1), List.append_assoc, show k + 1 + m = k + (m + 1) by omega]
theorem da_ls_c (f : Nat → List Int32) (e a : Nat) (h : e < a) : da_ls f (a - e) e = f e ++ da_ls f (a - (e + 1)) (e + 1) := by
  rw [show a - e = (a - (e + 1)) + 1 by omega]; rfl
theorem da_ls_e (f : Nat → List Int32) (e a : Nat) (h : e ≤ a) : da_ls f (a + 1 - e) e = da_ls f (a - e) e ++ f a := by
  rw [show a + 1 - e = (a - e) + 1 by omega, da_ls_s, show e + (a - e) = a by omega]

def da_AR (f : Nat → Int32) : Nat → List Int32 → Prop
  | _, [] => True
  | h, v :: q => f (h % 4) = v ∧ da_AR f (h + 1) q
theorem da_AR_push {f : Nat → Int32} {v : Int32} : ∀ (q : List Int32) (h : Nat), q.length < 4 → da_AR f h q → da_AR (upd f ((h + q.length) % 4) v) h (q ++ [v]) := by
  intro q
  induction q with
  | nil => intro h _ _; exact ⟨pk_us, trivial⟩
  | cons w q ih =>
    intro h hl hA
    rw [List.length_cons] at hl
    obtain ⟨h1, h2⟩ := hA
    have := ih (h + 1) (by omega) h2
    refine ⟨?_, ?_⟩
    · rw [pk_un]
      · exact h1
      · rw [List.length_cons]; omega
    · rw [List.length_cons, show h + (q.length + 1) = h + 1 + q.length by omega]; exact this

def da_SK (ls pl L : Nat → Int32) (base : Nat) : List Nat → Prop
  | [] => True
  | b :: st => ls (base + st.length) = nI (b + 1) ∧ pl (base + st.length) = L b ∧ da_SK ls pl L base st
theorem da_SK_c {ls pl L ls' pl' L' : Nat → Int32} {base : Nat} : ∀ st : List Nat, (∀ j, base ≤ j → j < base + st.length → ls' j = ls j) →
    (∀ j, base ≤ j → j < base + st.length → pl' j = pl j) → (∀ b, b ∈ st → L' b = L b) → da_SK ls pl L base st → da_SK ls' pl' L' base st := by
  intro st
  induction st with
  | nil => intro _ _ _ _; trivial
  | cons b st ih =>
    intro h1 h2 h3 h
    rw [List.length_cons] at h1 h2
    obtain ⟨a1, a2, a3⟩ := h
    refine ⟨?_, ?_, ih (fun j l r => h1 j l (by omega)) (fun j l r => h2 j l (by omega)) (fun c hc => h3 c (List.mem_cons_of_mem _ hc)) a3⟩
    · rw [h1 _ (by omega) (by omega)]; exact a1
    · rw [h2 _ (by omega) (by omega), h3 b List.mem_cons_self]; exact a2

section
variable (op x y z : Nat → Int32)
theorem da_ok_B {n : Nat} (h : ∀ i, i < n → da_ok op x y z i) : da_B op x y z n := by
  intro i hi
  rcases h i hi with ⟨k, a, b, c, hk, ha, hb, hc, ho, hx, hy, hz⟩ | ⟨k, a, b, hk, hk', ha, hb, ho, hx, hy⟩ | ⟨a, b, ha, hb, hb', ho, hx, hy⟩ | ⟨a, h1, h2, ho, hx⟩ | ho
  · rw [hx, hy, hz, nI_clamp (by omega), nI_clamp (by omega), nI_clamp (by omega)]
    exact ⟨fun _ => hb, fun _ => ha, fun _ => hc⟩
  · rw [hx, hy, nI_clamp (by omega), nI_clamp (by omega)]
    refine ⟨fun _ => hb, fun _ => ha, fun h4 => ?_⟩
    rw [ho] at h4
    exact absurd ((nI_leI (b := 4) (by omega) (by omega)).mp h4) (by omega)
  · rw [hx, nI_clamp (by omega)]
    refine ⟨fun h4 => ?_, fun _ => ha, fun h4 => ?_⟩
    · rw [ho] at h4; exact absurd h4 (by decide)
    · rw [ho] at h4; exact absurd h4 (by decide)
  · refine ⟨fun h4 => ?_, fun h4 => ?_, fun h4 => ?_⟩
    · rw [ho] at h4; exact absurd h4 (by decide)
    · rw [ho] at h4; exact absurd h4 (by decide)
    · rw [ho] at h4; exact absurd h4 (by decide)
  · refine ⟨fun h4 => ?_, fun h4 => ?_, fun h4 => ?_⟩
    · rw [ho] at h4; exact absurd h4 (by decide)
    · rw [ho] at h4; exact absurd h4 (by decide)
    · rw [ho] at h4; exact absurd h4 (by decide)

/-- the five kinds -/
def da_kT (i : Nat) : Prop := op i ≤ 6 ∧ ¬ op i = 7 ∧ ¬ op i = 8 ∧ ¬ op i = 9 ∧ ¬ op i = 10 ∧ (∃ a : Nat, a < 8 ∧ x i = nI a) ∧ (∃ b : Nat, b < 8 ∧ y i = nI b) ∧
  (op i = 5 ∨ op i = 6 ∨ (op i ≤ 4 ∧ ¬ op i = 5 ∧ ¬ op i = 6 ∧ ∃ c : Nat, c < 8 ∧ z i = nI c))
theorem da_kind {i : Nat} (h : da_ok op x y z i) : da_kT op x y z i ∨ (op i = 7 ∧ (∃ a : Nat, a < 8 ∧ x i = nI a) ∧ (∃ b : Nat, b < 8 ∧ y i = nI b)) ∨
    (op i = 8 ∧ (∃ a : Nat, a < 8 ∧ x i = nI a) ∧ (∃ b : Nat, 1 ≤ b ∧ b ≤ 8 ∧ y i = nI b)) ∨ (op i = 9 ∧ ∃ a : Nat, 1 ≤ a ∧ a ≤ 6 ∧ x i = nI a) ∨ op i = 10 := by
  rcases h with ⟨k, a, b, c, hk, ha, hb, hc, ho, hx, hy, hz⟩ | ⟨k, a, b, hk, hk', ha, hb, ho, hx, hy⟩ | ⟨a, b, ha, hb, hb', ho, hx, hy⟩ | ⟨a, h1, h2, ho, hx⟩ | ho
  · left
    have hne : ∀ q : Nat, q < 11 → 4 < q → ¬ op i = nI q := by
      intro q hq hq4
      rw [ho, nI_eq (by omega) (by omega)]; omega
    refine ⟨?_, hne 7 (by omega) (by omega), hne 8 (by omega) (by omega), hne 9 (by omega) (by omega), hne 10 (by omega) (by omega), ⟨a, ha, hx⟩, ⟨b, hb, hy⟩, Or.inr (Or.inr ⟨?_, hne 5 (by omega) (by omega), hne 6 (by omega) (by omega), c, hc, hz⟩)⟩
    · rw [ho]; exact (nI_leI (b := 6) (by omega) (by omega)).mpr (by omega)
    · rw [ho]; exact (nI_leI (b := 4) (by omega) (by omega)).mpr (by omega)
  · by_cases h7 : k = 7
    · right; left
      exact ⟨by rw [ho, h7]; rfl, ⟨a, ha, hx⟩, ⟨b, hb, hy⟩⟩
    · left
      have hne : ∀ q : Nat, q < 11 → 6 < q → ¬ op i = nI q := by
        intro q hq hq4
        rw [ho, nI_eq (by omega) (by omega)]; omega
      refine ⟨?_, hne 7 (by omega) (by omega), hne 8 (by omega) (by omega), hne 9 (by omega) (by omega), hne 10 (by omega) (by omega), ⟨a, ha, hx⟩, ⟨b, hb, hy⟩, ?_⟩
      · rw [ho]; exact (nI_leI (b := 6) (by omega) (by omega)).mpr (by omega)
      · by_cases h5 : k = 5
        · left; rw [ho, h5]; rfl
        · right; left; rw [ho, show k = 6 by omega]; rfl
  · exact Or.inr (Or.inr (Or.inl ⟨ho, ⟨a, ha, hx⟩, ⟨b, hb, hb', hy⟩⟩))
  · exact Or.inr (Or.inr (Or.inr (Or.inl ⟨ho, a, h1, h2, hx⟩)))
  · exact Or.inr (Or.inr (Or.inr (Or.inr ho)))

theorem da_cl_in (i : Nat) (R : Nat → Int32) : ∃ j : Nat, j < 16 ∧ da_cl y z i R = nI j := pk_andE _ 4 (by decide)

/-- what the access half sends ahead -/
def da_nd (sd : Nat → Bool) (i : Nat) : Bool := decide (op i = 6) || decide (op i = 8) || (decide (op i ≤ 6) && sd (x i).toNatClampNeg)
def da_ov (s : da_St) : Int32 := if op s.1 = 8 then (if s.2.1 (x s.1).toNatClampNeg = 0 then y s.1 else 0) else da_tv op y z s.1 s.2.1 s.2.2.1
def da_fo (sd : Nat → Bool) (tr : Nat → da_St) (k : Nat) : List Int32 := if da_nd op x sd (tr k).1 = true then [da_ov op x y z (tr k)] else []
def da_fc (tr : Nat → da_St) (k : Nat) : List Int32 := if op (tr k).1 = 7 then [da_cl y z (tr k).1 (tr k).2.1] else []

theorem da_M_step (s : da_St) (c : Int32) (hc : ∃ j : Nat, j < 16 ∧ c = nI j) (h : op s.1 = 7 → ¬ da_cl y z s.1 s.2.1 = c) :
    (da_st op x y z s).2.2.1 c.toNatClampNeg = s.2.2.1 c.toNatClampNeg := by
  by_cases h7 : op s.1 = 7
  · rw [da_st_7 op x y z h7]
    dsimp only
    rw [pk_un]
    intro e
    obtain ⟨j, hj, rfl⟩ := hc
    obtain ⟨j', hj', e'⟩ := da_cl_in y z s.1 s.2.1
    rw [e', nI_clamp (by omega), nI_clamp (by omega)] at e
    exact h h7 (by rw [e', e])
  · by_cases h8 : op s.1 = 8
    · exact congrFun (congrArg (fun t : da_St => t.2.2.1) (da_st_8 op x y z h8)) _
    · by_cases h9 : op s.1 = 9
      · exact congrFun (congrArg (fun t : da_St => t.2.2.1) (da_st_9 op x y z h9)) _
      · by_cases h10 : op s.1 = 10
        · have e : (da_st op x y z s).2.2.1 = s.2.2.1 := by
            unfold da_st; simp only [if_neg h7, if_neg h8, if_neg h9, if_pos h10]
          rw [e]
        · exact congrFun (congrArg (fun t : da_St => t.2.2.1) (da_st_t op x y z h7 h8 h9 h10)) _
theorem da_M_ls (s0 : da_St) (c : Int32) (hc : ∃ j : Nat, j < 16 ∧ c = nI j) : ∀ m k, ¬ c ∈ da_ls (da_fc op y z (da_tr op x y z s0)) m k →
    (da_tr op x y z s0 (k + m)).2.2.1 c.toNatClampNeg = (da_tr op x y z s0 k).2.2.1 c.toNatClampNeg := by
  intro m
  induction m with
  | zero => intro k _; rfl
  | succ m ih =>
    intro k h
    rw [da_ls, List.mem_append] at h
    have h1 := ih (k + 1) (fun e => h (Or.inr e))
    rw [show k + (m + 1) = k + 1 + m by omega, h1]
    refine da_M_step op x y z _ c hc (fun h7 e => h (Or.inl ?_))
    unfold da_fc
    rw [if_pos h7, e]; exact List.mem_singleton_self _
end
end
section
/-! The halves against the trace: what each step keeps -/
theorem da_sapp (v : Int32) (l : List Int32) : [v] ++ l = v :: l := rfl
section
variable (op x y z : Nat → Int32)

/-- half h stands at index k's place, with its running loops -/
def da_IH (s : da_St) (h : Nat) (ps on ls pl : Nat → Int32) : Prop :=
  ps h = nI s.1 ∧ on h = nI (da_enc op s.1).length ∧ da_SK ls pl s.2.2.2 (2 * h) (da_enc op s.1)

theorem da_IH_o {s : da_St} {h h' : Nat} {v : Int32} {ps on ls pl : Nat → Int32} (hn : h' ≠ h) (I : da_IH op s h' ps on ls pl) : da_IH op s h' (upd ps h v) on ls pl := by
  obtain ⟨i1, i2, i3⟩ := I
  exact ⟨by rw [pk_un hn]; exact i1, i2, i3⟩

theorem da_IH_adv {s s' : da_St} {h : Nat} {ps on ls pl : Nat → Int32} (he : da_enc op s'.1 = da_enc op s.1) (hL : s'.2.2.2 = s.2.2.2) (I : da_IH op s h ps on ls pl) :
    da_IH op s' h (upd ps h (nI s'.1)) on ls pl := by
  obtain ⟨_, i2, i3⟩ := I
  exact ⟨pk_us, by rw [he]; exact i2, by rw [he, hL]; exact i3⟩

theorem da_enc_8 {n : Nat} (G : da_G op x y z n) {s : da_St} (hn : s.1 < n) (h8 : op s.1 = 8) :
    da_enc op (da_st op x y z s).1 = da_enc op s.1 ∧ (da_st op x y z s).2.2.2 = s.2.2.2 := by
  have e1 : da_enc op (s.1 + 1) = da_enc op s.1 := da_enc_o op (by rw [h8]; decide) (by rw [h8]; decide)
  have e2 := (G.2.2.2.2.2 s.1 hn h8).2
  rw [da_st_8 op x y z h8]
  dsimp only
  refine ⟨?_, rfl⟩
  split
  · exact e2.trans e1
  · exact e1
theorem da_enc_7 {s : da_St} (h7 : op s.1 = 7) : da_enc op (da_st op x y z s).1 = da_enc op s.1 ∧ (da_st op x y z s).2.2.2 = s.2.2.2 := by
  rw [da_st_7 op x y z h7]
  exact ⟨da_enc_o op (by rw [h7]; decide) (by rw [h7]; decide), rfl⟩
theorem da_enc_t {s : da_St} (h7 : ¬ op s.1 = 7) (h8 : ¬ op s.1 = 8) (h9 : ¬ op s.1 = 9) (h10 : ¬ op s.1 = 10) :
    da_enc op (da_st op x y z s).1 = da_enc op s.1 ∧ (da_st op x y z s).2.2.2 = s.2.2.2 := by
  rw [da_st_t op x y z h7 h8 h9 h10]
  exact ⟨da_enc_o op h9 h10, rfl⟩

/-- REPEAT -/
theorem da_IH_9 {s : da_St} {h : Nat} {ps on ls pl : Nat → Int32} (h9 : op s.1 = 9) (I : da_IH op s h ps on ls pl) :
    da_IH op (da_st op x y z s) h (upd ps h (nI (s.1 + 1))) (upd on h (nI ((da_enc op s.1).length + 1)))
      (upd ls (2 * h + (da_enc op s.1).length) (nI (s.1 + 1))) (upd pl (2 * h + (da_enc op s.1).length) (x s.1)) := by
  obtain ⟨_, _, i3⟩ := I
  rw [da_st_9 op x y z h9]
  refine ⟨pk_us, ?_, ?_⟩
  · show upd on h _ h = nI (da_enc op (s.1 + 1)).length
    rw [pk_us, da_enc_9 op h9, List.length_cons]
  · show da_SK _ _ (upd s.2.2.2 s.1 (x s.1)) (2 * h) (da_enc op (s.1 + 1))
    rw [da_enc_9 op h9]
    refine ⟨pk_us, by rw [pk_us, pk_us], ?_⟩
    refine da_SK_c _ (fun j _ hj => ?_) (fun j _ hj => ?_) (fun b hb => ?_) i3
    · exact pk_un (by omega)
    · exact pk_un (by omega)
    · have := (da_enc_mem op hb).1
      exact pk_un (by omega)
/-- the other half keeps its own -/
theorem da_IH_sto {s : da_St} {h h' t : Nat} {v w : Int32} {ps on ls pl : Nat → Int32} (hl : (da_enc op s.1).length ≤ 2) (hn : h' ≠ h) (ht : 2 * h ≤ t) (ht' : t < 2 * h + 2)
    (I : da_IH op s h' ps on ls pl) : da_IH op s h' ps on (upd ls t v) (upd pl t w) := by
  obtain ⟨i1, i2, i3⟩ := I
  refine ⟨i1, i2, da_SK_c _ (fun j j1 j2 => ?_) (fun j j1 j2 => ?_) (fun b hb => rfl) i3⟩
  · exact pk_un (by omega)
  · exact pk_un (by omega)
theorem da_IH_stp {s : da_St} {h h' t : Nat} {w : Int32} {ps on ls pl : Nat → Int32} (hl : (da_enc op s.1).length ≤ 2) (hn : h' ≠ h) (ht : 2 * h ≤ t) (ht' : t < 2 * h + 2)
    (I : da_IH op s h' ps on ls pl) : da_IH op s h' ps on ls (upd pl t w) := by
  obtain ⟨i1, i2, i3⟩ := I
  refine ⟨i1, i2, da_SK_c _ (fun j j1 j2 => rfl) (fun j j1 j2 => ?_) (fun b hb => rfl) i3⟩
  exact pk_un (by omega)
theorem da_IH_on {s : da_St} {h h' : Nat} {v : Int32} {ps on ls pl : Nat → Int32} (hn : h' ≠ h) (I : da_IH op s h' ps on ls pl) : da_IH op s h' ps (upd on h v) ls pl := by
  obtain ⟨i1, i2, i3⟩ := I
  exact ⟨i1, by rw [pk_un hn]; exact i2, i3⟩

/-- END, another pass -/
theorem da_IH_10b {s : da_St} {h b p : Nat} {st : List Nat} {ps on ls pl : Nat → Int32} (h10 : op s.1 = 10) (he : da_enc op s.1 = b :: st) (hp : s.2.2.2 b = nI p) (hp6 : p ≤ 6) (hp1 : 2 ≤ p)
    (I : da_IH op s h ps on ls pl) : da_IH op (da_st op x y z s) h (upd ps h (nI (b + 1))) on ls (upd pl (2 * h + st.length) (nI (p - 1))) := by
  obtain ⟨_, i2, i3⟩ := I
  obtain ⟨hb1, hb2, hb3⟩ := da_enc_hd op he
  have e1 : da_enc op (b + 1) = da_enc op s.1 := by rw [da_enc_9 op hb2, hb3, he]
  rw [da_st_10 op x y z h10 he, hp, da_dec1 (by omega) hp6, if_pos ((da_dec0 (by omega)).mpr (by omega))]
  refine ⟨pk_us, ?_, ?_⟩
  · show on h = nI (da_enc op (b + 1)).length
    rw [e1]; exact i2
  · show da_SK _ _ (upd s.2.2.2 b (nI (p - 1))) (2 * h) (da_enc op (b + 1))
    rw [e1, he]
    rw [he] at i3
    obtain ⟨k1, k2, k3⟩ := i3
    refine ⟨k1, by rw [pk_us, pk_us], ?_⟩
    refine da_SK_c _ (fun j _ hj => rfl) (fun j _ hj => ?_) (fun c hc => ?_) k3
    · exact pk_un (by omega)
    · rw [← hb3] at hc
      have := (da_enc_mem op hc).1
      exact pk_un (by omega)
/-- END, the last pass -/
theorem da_IH_10p {s : da_St} {h b p : Nat} {st : List Nat} {ps on ls pl : Nat → Int32} (h10 : op s.1 = 10) (he : da_enc op s.1 = b :: st) (hp : s.2.2.2 b = nI p) (hp1 : p = 1)
    (I : da_IH op s h ps on ls pl) : da_IH op (da_st op x y z s) h (upd ps h (nI (s.1 + 1))) (upd on h (nI st.length)) ls (upd pl (2 * h + st.length) (nI (p - 1))) := by
  obtain ⟨_, i2, i3⟩ := I
  obtain ⟨hb1, hb2, hb3⟩ := da_enc_hd op he
  have e1 : da_enc op (s.1 + 1) = st := by rw [da_enc_10 op h10, he]; rfl
  rw [da_st_10 op x y z h10 he, hp, da_dec1 (by omega) (by omega), if_neg (fun h => by have := (da_dec0 (by omega)).mp h; omega)]
  refine ⟨pk_us, ?_, ?_⟩
  · show upd on h _ h = nI (da_enc op (s.1 + 1)).length
    rw [e1, pk_us]
  · show da_SK _ _ (upd s.2.2.2 b (nI (p - 1))) (2 * h) (da_enc op (s.1 + 1))
    rw [e1]
    rw [he] at i3
    obtain ⟨k1, k2, k3⟩ := i3
    refine da_SK_c _ (fun j _ hj => rfl) (fun j _ hj => ?_) (fun c hc => ?_) k3
    · exact pk_un (by omega)
    · rw [← hb3] at hc
      have := (da_enc_mem op hc).1
      exact pk_un (by omega)

/-- the operand queue between index e and index a at cycle c -/
def da_IO (sd : Nat → Bool) (tr : Nat → da_St) (dq e a c H : Nat) (As : List Nat) (B : Nat) (oh oc bu : Int32) (ov oa : Nat → Int32) : Prop :=
  oh = nI (H % 4) ∧ oc = nI (da_ls (da_fo op x y z sd tr) (a - e) e).length ∧ (da_ls (da_fo op x y z sd tr) (a - e) e).length ≤ dq ∧
  da_AR ov H (da_ls (da_fo op x y z sd tr) (a - e) e) ∧ As.length = (da_ls (da_fo op x y z sd tr) (a - e) e).length ∧ da_AR oa H (As.map nI) ∧
  (∀ t, t ∈ As → t ≤ c + 6) ∧ bu = nI B ∧ B ≤ c + 6 ∧ (c < B → ∃ l, As = l ++ [B])
/-- the store queue -/
def da_IS (tr : Nat → da_St) (dq e a Hs : Nat) (sh sc : Int32) (sl : Nat → Int32) : Prop :=
  sh = nI (Hs % 4) ∧ sc = nI (da_ls (da_fc op y z tr) (a - e) e).length ∧ (da_ls (da_fc op y z tr) (a - e) e).length ≤ dq ∧ da_AR sl Hs (da_ls (da_fc op y z tr) (a - e) e)

theorem da_IO_up {sd : Nat → Bool} {tr : Nat → da_St} {dq e a c H B : Nat} {As : List Nat} {oh oc bu : Int32} {ov oa : Nat → Int32}
    (I : da_IO op x y z sd tr dq e a c H As B oh oc bu ov oa) : da_IO op x y z sd tr dq e a (c + 1) H As B oh oc bu ov oa := by
  obtain ⟨i1, i2, i3, i4, i5, i6, i7, i8, i9, i10⟩ := I
  exact ⟨i1, i2, i3, i4, i5, i6, fun t ht => by have := i7 t ht; omega, i8, by omega, fun h => i10 (by omega)⟩

/-- execute goes on without an operand -/
theorem da_IO_e {sd : Nat → Bool} {tr : Nat → da_St} {dq e a c H B : Nat} {As : List Nat} {oh oc bu : Int32} {ov oa : Nat → Int32}
    (hf : da_fo op x y z sd tr e = []) (I : da_IO op x y z sd tr dq e a c H As B oh oc bu ov oa) : da_IO op x y z sd tr dq (e + 1) a c H As B oh oc bu ov oa := by
  have hq : da_ls (da_fo op x y z sd tr) (a - (e + 1)) (e + 1) = da_ls (da_fo op x y z sd tr) (a - e) e := by
    by_cases h : e < a
    · rw [da_ls_c _ e a h, hf]; rfl
    · rw [show a - e = 0 by omega, show a - (e + 1) = 0 by omega]; rfl
  unfold da_IO
  rw [hq]; exact I
theorem da_IS_e {tr : Nat → da_St} {dq e a Hs : Nat} {sh sc : Int32} {sl : Nat → Int32}
    (hf : da_fc op y z tr e = []) (I : da_IS op y z tr dq e a Hs sh sc sl) : da_IS op y z tr dq (e + 1) a Hs sh sc sl := by
  have hq : da_ls (da_fc op y z tr) (a - (e + 1)) (e + 1) = da_ls (da_fc op y z tr) (a - e) e := by
    by_cases h : e < a
    · rw [da_ls_c _ e a h, hf]; rfl
    · rw [show a - e = 0 by omega, show a - (e + 1) = 0 by omega]; rfl
  unfold da_IS
  rw [hq]; exact I
/-- execute takes an operand -/
theorem da_IO_t {sd : Nat → Bool} {tr : Nat → da_St} {dq e a c H B : Nat} {As : List Nat} {oh oc bu : Int32} {ov oa : Nat → Int32} {v : Int32}
    (hf : da_fo op x y z sd tr e = [v]) (hea : e < a) (I : da_IO op x y z sd tr dq e a c H As B oh oc bu ov oa) :
    ∃ t As', As = t :: As' ∧ oa (H % 4) = nI t ∧ ov (H % 4) = v ∧ oc = nI (As'.length + 1) ∧ As'.length < dq ∧
      (t ≤ c → da_IO op x y z sd tr dq (e + 1) a c (H + 1) As' B (nI ((H + 1) % 4)) (nI As'.length) bu ov oa) := by
  obtain ⟨i1, i2, i3, i4, i5, i6, i7, i8, i9, i10⟩ := I
  rw [da_ls_c _ e a hea, hf] at i2 i3 i4 i5
  rw [da_sapp] at i2 i3 i4 i5
  rw [List.length_cons] at i2 i3 i5
  obtain ⟨v1, v2⟩ := i4
  cases As with
  | nil => rw [List.length_nil] at i5; omega
  | cons t As' =>
    rw [List.length_cons] at i5
    obtain ⟨w1, w2⟩ := i6
    refine ⟨t, As', rfl, w1, v1, by rw [i2]; congr 1; omega, by omega, fun ht => ?_⟩
    refine ⟨rfl, by congr 1; omega, by omega, v2, by omega, w2, fun q hq => i7 q (List.mem_cons_of_mem _ hq), i8, i9, fun hb => ?_⟩
    obtain ⟨l, el⟩ := i10 hb
    cases l with
    | nil =>
      rw [List.nil_append] at el
      injection el with el1 el2
      omega
    | cons t' l =>
      rw [List.cons_append] at el
      injection el with el1 el2
      exact ⟨l, el2⟩
/-- execute takes a store's cell -/
theorem da_IS_t {tr : Nat → da_St} {dq e a Hs : Nat} {sh sc : Int32} {sl : Nat → Int32} {v : Int32}
    (hf : da_fc op y z tr e = [v]) (hea : e < a) (I : da_IS op y z tr dq e a Hs sh sc sl) :
    ∃ k : Nat, sl (Hs % 4) = v ∧ sc = nI (k + 1) ∧ k < dq ∧ da_IS op y z tr dq (e + 1) a (Hs + 1) (nI ((Hs + 1) % 4)) (nI k) sl := by
  obtain ⟨i1, i2, i3, i4⟩ := I
  rw [da_ls_c _ e a hea, hf] at i2 i3 i4
  rw [da_sapp] at i2 i3 i4
  rw [List.length_cons] at i2 i3
  obtain ⟨v1, v2⟩ := i4
  exact ⟨_, v1, i2, by omega, rfl, rfl, by omega, v2⟩
/-- access goes on without an operand -/
theorem da_IO_a {sd : Nat → Bool} {tr : Nat → da_St} {dq e a c H B : Nat} {As : List Nat} {oh oc bu : Int32} {ov oa : Nat → Int32}
    (hf : da_fo op x y z sd tr a = []) (I : da_IO op x y z sd tr dq e a c H As B oh oc bu ov oa) : da_IO op x y z sd tr dq e (a + 1) c H As B oh oc bu ov oa := by
  have hq : da_ls (da_fo op x y z sd tr) (a + 1 - e) e = da_ls (da_fo op x y z sd tr) (a - e) e := by
    by_cases h : e ≤ a
    · rw [da_ls_e _ e a h, hf, List.append_nil]
    · rw [show a - e = 0 by omega, show a + 1 - e = 0 by omega]
  unfold da_IO
  rw [hq]; exact I
theorem da_IS_a {tr : Nat → da_St} {dq e a Hs : Nat} {sh sc : Int32} {sl : Nat → Int32}
    (hf : da_fc op y z tr a = []) (I : da_IS op y z tr dq e a Hs sh sc sl) : da_IS op y z tr dq e (a + 1) Hs sh sc sl := by
  have hq : da_ls (da_fc op y z tr) (a + 1 - e) e = da_ls (da_fc op y z tr) (a - e) e := by
    by_cases h : e ≤ a
    · rw [da_ls_e _ e a h, hf, List.append_nil]
    · rw [show a - e = 0 by omega, show a + 1 - e = 0 by omega]
  unfold da_IS
  rw [hq]; exact I
/-- access sends an operand -/
theorem da_IO_p {sd : Nat → Bool} {tr : Nat → da_St} {dq e a c H B B' t q : Nat} {As : List Nat} {oh oc bu : Int32} {ov oa : Nat → Int32} {v : Int32}
    (hd : dq ≤ 4) (hf : da_fo op x y z sd tr a = [v]) (hea : e ≤ a) (hc : oc = nI q) (hq : q < dq) (ht : t ≤ c + 6) (hB : (B' = t) ∨ (B' ≤ c))
    (I : da_IO op x y z sd tr dq e a c H As B oh oc bu ov oa) :
    da_IO op x y z sd tr dq e (a + 1) c H (As ++ [t]) B' oh (nI (q + 1)) (nI B') (upd ov ((H + q) % 4) v) (upd oa ((H + q) % 4) (nI t)) := by
  obtain ⟨i1, i2, i3, i4, i5, i6, i7, i8, i9, i10⟩ := I
  have hq' : q = (da_ls (da_fo op x y z sd tr) (a - e) e).length := by
    rw [hc] at i2; exact (nI_eq (by omega) (by omega)).mp i2
  have hqA : q = (As.map nI).length := by rw [List.length_map]; omega
  unfold da_IO
  rw [da_ls_e _ e a hea, hf, List.length_append, List.length_singleton, ← hq']
  refine ⟨i1, rfl, by omega, ?_, by rw [List.length_append, List.length_singleton]; omega, ?_, ?_, rfl, ?_, ?_⟩
  · have := da_AR_push (v := v) _ H (by omega) i4
    rw [← hq'] at this; exact this
  · rw [List.map_append]
    have := da_AR_push (v := nI t) _ H (by omega) i6
    rw [← hqA] at this; exact this
  · intro s hs
    rcases List.mem_append.mp hs with h | h
    · exact i7 s h
    · rw [List.mem_singleton.mp h]; exact ht
  · rcases hB with h | h <;> omega
  · intro hb
    rcases hB with h | h
    · exact ⟨As, by rw [h]⟩
    · omega
/-- access sends a store's cell -/
theorem da_IS_p {tr : Nat → da_St} {dq e a Hs q : Nat} {sh sc : Int32} {sl : Nat → Int32} {v : Int32}
    (hd : dq ≤ 4) (hf : da_fc op y z tr a = [v]) (hea : e ≤ a) (hc : sc = nI q) (hq : q < dq) (I : da_IS op y z tr dq e a Hs sh sc sl) :
    da_IS op y z tr dq e (a + 1) Hs sh (nI (q + 1)) (upd sl ((Hs + q) % 4) v) := by
  obtain ⟨i1, i2, i3, i4⟩ := I
  have hq' : q = (da_ls (da_fc op y z tr) (a - e) e).length := by
    rw [hc] at i2; exact (nI_eq (by omega) (by omega)).mp i2
  unfold da_IS
  rw [da_ls_e _ e a hea, hf, List.length_append, List.length_singleton, ← hq']
  refine ⟨i1, rfl, by omega, ?_⟩
  have := da_AR_push (v := v) _ Hs (by omega) i4
  rw [← hq'] at this; exact this
end
end
section
/-! The reference's search for the beginning of a loop -/
section
variable (op : Nat → Int32)
def da_bg (m c : Nat) : Nat := (da_enc op m).getD (c - 1) 0
theorem da_getT (l : List Nat) (k : Nat) : l.tail.getD k 0 = l.getD (k + 1) 0 := by
  cases l <;> simp
theorem da_bg_0 (c : Nat) : da_bg op 0 c = 0 := by
  unfold da_bg; rw [da_enc]; simp
theorem da_bg_10 {m c : Nat} (h : op m = 10) (hc : 1 ≤ c) : da_bg op (m + 1) c = da_bg op m (c + 1) := by
  unfold da_bg
  rw [da_enc_10 op h, da_getT, show c - 1 + 1 = c + 1 - 1 by omega]
theorem da_bg_9a {m : Nat} (h : op m = 9) : da_bg op (m + 1) 1 = m := by
  unfold da_bg
  rw [da_enc_9 op h]; rfl
theorem da_bg_9b {m c : Nat} (h : op m = 9) (hc : 2 ≤ c) : da_bg op (m + 1) c = da_bg op m (c - 1) := by
  unfold da_bg
  rw [da_enc_9 op h, show c - 1 = (c - 1 - 1) + 1 by omega]
  rfl
theorem da_bg_o {m c : Nat} (h9 : ¬ op m = 9) (h10 : ¬ op m = 10) : da_bg op (m + 1) c = da_bg op m c := by
  unfold da_bg
  rw [da_enc_o op h9 h10]
theorem da_bg_hd (m : Nat) : da_bg op m 1 = da_hd op m := by
  unfold da_bg da_hd
  cases da_enc op m <;> rfl
end
end
section
/-! The moves of the halves -/
def da_RA (sd : Nat → Bool) (ar R : Nat → Int32) : Prop := ∀ r, r < 8 → sd r = true → ar r = R r
theorem da_RA_u {sd : Nat → Bool} {ar R : Nat → Int32} {k : Nat} {v : Int32} (h : da_RA sd ar R) : da_RA sd (upd ar k v) (upd R k v) := by
  intro r hr hs
  by_cases e : r = k
  · rw [e, pk_us, pk_us]
  · rw [pk_un e, pk_un e]; exact h r hr hs
theorem da_RA_n {sd : Nat → Bool} {ar R : Nat → Int32} {k : Nat} {v : Int32} (hk : sd k = false) (h : da_RA sd ar R) : da_RA sd ar (upd R k v) := by
  intro r hr hs
  have e : r ≠ k := by
    intro e
    rw [e, hk] at hs
    exact absurd hs (by decide)
  rw [pk_un e]; exact h r hr hs
section
variable (op x y z : Nat → Int32)
theorem da_nd_f {sd : Nat → Bool} {i : Nat} (h6 : ¬ op i ≤ 6) (h8 : ¬ op i = 8) : da_nd op x sd i = false := by
  have h : ¬ op i = 6 := fun e => h6 (by rw [e]; decide)
  unfold da_nd
  rw [decide_eq_false h, decide_eq_false h8, decide_eq_false h6]; rfl
theorem da_nd_6 {sd : Nat → Bool} {i : Nat} (h : op i = 6) : da_nd op x sd i = true := by
  unfold da_nd
  rw [decide_eq_true h]; rfl
theorem da_nd_8 {sd : Nat → Bool} {i : Nat} (h : op i = 8) : da_nd op x sd i = true := by
  unfold da_nd
  rw [decide_eq_true h, Bool.or_true]; rfl
theorem da_nd_t {sd : Nat → Bool} {i : Nat} (h : op i ≤ 6) (h6 : ¬ op i = 6) : da_nd op x sd i = sd (x i).toNatClampNeg := by
  have h8 : ¬ op i = 8 := fun e => absurd h (by rw [e]; decide)
  unfold da_nd
  rw [decide_eq_false h6, decide_eq_false h8, decide_eq_true h]
  simp
theorem da_fo_n {sd : Nat → Bool} {tr : Nat → da_St} {k : Nat} (h : da_nd op x sd (tr k).1 = false) : da_fo op x y z sd tr k = [] := by
  unfold da_fo; rw [h]; rfl
theorem da_fo_y {sd : Nat → Bool} {tr : Nat → da_St} {k : Nat} (h : da_nd op x sd (tr k).1 = true) : da_fo op x y z sd tr k = [da_ov op x y z (tr k)] := by
  unfold da_fo; rw [if_pos h]
theorem da_fc_n {tr : Nat → da_St} {k : Nat} (h : ¬ op (tr k).1 = 7) : da_fc op y z tr k = [] := by
  unfold da_fc; rw [if_neg h]
theorem da_fc_y {tr : Nat → da_St} {k : Nat} (h : op (tr k).1 = 7) : da_fc op y z tr k = [da_cl y z (tr k).1 (tr k).2.1] := by
  unfold da_fc; rw [if_pos h]
theorem da_ov_8 {s : da_St} (h : op s.1 = 8) : da_ov op x y z s = if s.2.1 (x s.1).toNatClampNeg = 0 then y s.1 else 0 := by
  unfold da_ov; rw [if_pos h]
theorem da_ov_t {s : da_St} (h : ¬ op s.1 = 8) : da_ov op x y z s = da_tv op y z s.1 s.2.1 s.2.2.1 := by
  unfold da_ov; rw [if_neg h]

/-- the whole: execute at index e, access at index a, cycle c -/
def da_V (sd : Nat → Bool) (tr : Nat → da_St) (dq e a c H : Nat) (As : List Nat) (B Hs : Nat) (bu ex oh oc sh sc : Int32) (rg ce ar ps on ls pl ov oa sl : Nat → Int32) : Prop :=
  ex = nI e ∧ rg = (tr e).2.1 ∧ ce = (tr e).2.2.1 ∧ da_IH op (tr e) 1 ps on ls pl ∧ da_IH op (tr a) 0 ps on ls pl ∧ da_RA sd ar (tr a).2.1 ∧
  da_IO op x y z sd tr dq e a c H As B oh oc bu ov oa ∧ da_IS op y z tr dq e a Hs sh sc sl

/-- what is fixed during a run -/
def da_F (n K m : Nat) (sd : Nat → Bool) (tr : Nat → da_St) : Prop :=
  da_G op x y z n ∧ (∀ k, tr (k + 1) = da_st op x y z (tr k)) ∧ (∀ k, k < K → (tr k).1 < n) ∧ (tr K).1 = n ∧ (∀ k, k ≤ K → da_I op n (tr k)) ∧
  da_C op x y z n m ∧ m < 256 ∧ (∀ r, sd r = m.testBit r) ∧
  (∀ (c : Int32), (∃ j : Nat, j < 16 ∧ c = nI j) → ∀ q k, ¬ c ∈ da_ls (da_fc op y z tr) q k → (tr (k + q)).2.2.1 c.toNatClampNeg = (tr k).2.2.1 c.toNatClampNeg)

variable {n K m : Nat} {tr : Nat → da_St}

theorem da_F_len {sd : Nat → Bool} (F : da_F op x y z n K m sd tr) {k : Nat} (hk : k ≤ K) : (da_enc op (tr k).1).length ≤ 2 := by
  obtain ⟨G, _, _, _, hI, _⟩ := F
  exact G.2.2.1 _ (hI k hk).1

/- execute -/
theorem da_E_7 {sd : Nat → Bool} {dq e a c H : Nat} {As : List Nat} {B Hs : Nat} {bu ex oh oc sh sc : Int32} {rg ce ar ps on ls pl ov oa sl : Nat → Int32} (F : da_F op x y z n K m sd tr) (he : e < K) (hea : e < a) (h7 : op (tr e).1 = 7) (V : da_V op x y z sd tr dq e a c H As B Hs bu ex oh oc sh sc rg ce ar ps on ls pl ov oa sl) :
    ∃ k : Nat, sl (Hs % 4) = da_cl y z (tr e).1 rg ∧ sc = nI (k + 1) ∧ k < dq ∧
      da_V op x y z sd tr dq (e + 1) a c H As B (Hs + 1) bu (nI (e + 1)) oh oc (nI ((Hs + 1) % 4)) (nI k) rg (upd ce (da_cl y z (tr e).1 rg).toNatClampNeg (rg (x (tr e).1).toNatClampNeg)) ar (upd ps 1 (nI ((tr e).1 + 1))) on ls pl ov oa sl := by
  obtain ⟨G, ht, _⟩ := F
  obtain ⟨v1, v2, v3, v4, v5, v6, v7, v8⟩ := V
  obtain ⟨k, s1, s2, s3, s4⟩ := da_IS_t op y z (da_fc_y op y z h7) hea v8
  have e1 := da_enc_7 op x y z h7
  have e2 : tr (e + 1) = _ := (ht e).trans (da_st_7 op x y z h7)
  refine ⟨k, by rw [v2]; exact s1, s2, s3, rfl, by rw [e2]; exact v2, by rw [e2, v2, v3], ?_, da_IH_o op (by decide) v5, v6, ?_, s4⟩
  · have := da_IH_adv op (s' := tr (e + 1)) (by rw [ht]; exact e1.1) (by rw [ht]; exact e1.2) v4
    rw [show (tr (e + 1)).1 = (tr e).1 + 1 by rw [e2]] at this
    exact this
  · exact da_IO_e op x y z (da_fo_n op x y z (da_nd_f op x (by rw [h7]; decide) (by rw [h7]; decide))) v7
theorem da_E_8 {sd : Nat → Bool} {dq e a c H : Nat} {As : List Nat} {B Hs : Nat} {bu ex oh oc sh sc : Int32} {rg ce ar ps on ls pl ov oa sl : Nat → Int32} (F : da_F op x y z n K m sd tr) (he : e < K) (hea : e < a) (h8 : op (tr e).1 = 8) (V : da_V op x y z sd tr dq e a c H As B Hs bu ex oh oc sh sc rg ce ar ps on ls pl ov oa sl) :
    ∃ (t : Nat) (As' : List Nat), As = t :: As' ∧ oa (H % 4) = nI t ∧ ov (H % 4) = (if rg (x (tr e).1).toNatClampNeg = 0 then y (tr e).1 else 0) ∧ oc = nI (As'.length + 1) ∧ As'.length < dq ∧
      (t ≤ c → da_V op x y z sd tr dq (e + 1) a c (H + 1) As' B Hs bu (nI (e + 1)) (nI ((H + 1) % 4)) (nI As'.length) sh sc rg ce ar (upd ps 1 (nI (tr (e + 1)).1)) on ls pl ov oa sl) := by
  obtain ⟨G, ht, hlt, _⟩ := F
  obtain ⟨v1, v2, v3, v4, v5, v6, v7, v8⟩ := V
  obtain ⟨t, As', s1, s2, s3, s4, s5, s6⟩ := da_IO_t op x y z (da_fo_y op x y z (da_nd_8 op x h8)) hea v7
  rw [da_ov_8 op x y z h8] at s3
  have e1 := da_enc_8 op x y z G (hlt e he) h8
  have e2 : tr (e + 1) = _ := (ht e).trans (da_st_8 op x y z h8)
  refine ⟨t, As', s1, s2, by rw [v2]; exact s3, s4, s5, fun hc => ⟨rfl, by rw [e2]; exact v2, by rw [e2]; exact v3, ?_, da_IH_o op (by decide) v5, v6, s6 hc, ?_⟩⟩
  · exact da_IH_adv op (s' := tr (e + 1)) (by rw [ht]; exact e1.1) (by rw [ht]; exact e1.2) v4
  · exact da_IS_e op y z (da_fc_n op y z (by rw [h8]; decide)) v8
theorem da_E_tn {sd : Nat → Bool} {dq e a c H : Nat} {As : List Nat} {B Hs : Nat} {bu ex oh oc sh sc : Int32} {rg ce ar ps on ls pl ov oa sl : Nat → Int32} (F : da_F op x y z n K m sd tr) (he : e < K) (hea : e < a) (k : da_kT op x y z (tr e).1) (hn : da_nd op x sd (tr e).1 = true) (V : da_V op x y z sd tr dq e a c H As B Hs bu ex oh oc sh sc rg ce ar ps on ls pl ov oa sl) :
    ∃ (t : Nat) (As' : List Nat), As = t :: As' ∧ oa (H % 4) = nI t ∧ oc = nI (As'.length + 1) ∧ As'.length < dq ∧
      (t ≤ c → da_V op x y z sd tr dq (e + 1) a c (H + 1) As' B Hs bu (nI (e + 1)) (nI ((H + 1) % 4)) (nI As'.length) sh sc (upd rg (x (tr e).1).toNatClampNeg (ov (H % 4))) ce ar (upd ps 1 (nI ((tr e).1 + 1))) on ls pl ov oa sl) := by
  obtain ⟨G, ht, hlt, _⟩ := F
  obtain ⟨v1, v2, v3, v4, v5, v6, v7, v8⟩ := V
  obtain ⟨_, h7, h8, h9, h10, _⟩ := k
  obtain ⟨t, As', s1, s2, s3, s4, s5, s6⟩ := da_IO_t op x y z (da_fo_y op x y z hn) hea v7
  rw [da_ov_t op x y z h8] at s3
  have e1 := da_enc_t op x y z h7 h8 h9 h10
  have e2 : tr (e + 1) = _ := (ht e).trans (da_st_t op x y z h7 h8 h9 h10)
  refine ⟨t, As', s1, s2, s4, s5, fun hc => ⟨rfl, by rw [e2, s3, v2], by rw [e2]; exact v3, ?_, da_IH_o op (by decide) v5, v6, s6 hc, ?_⟩⟩
  · have := da_IH_adv op (s' := tr (e + 1)) (by rw [ht]; exact e1.1) (by rw [ht]; exact e1.2) v4
    rw [show (tr (e + 1)).1 = (tr e).1 + 1 by rw [e2]] at this
    exact this
  · exact da_IS_e op y z (da_fc_n op y z h7) v8
theorem da_E_tf {sd : Nat → Bool} {dq e a c H : Nat} {As : List Nat} {B Hs : Nat} {bu ex oh oc sh sc : Int32} {rg ce ar ps on ls pl ov oa sl : Nat → Int32} (F : da_F op x y z n K m sd tr) (he : e < K) (k : da_kT op x y z (tr e).1) (hn : da_nd op x sd (tr e).1 = false) (V : da_V op x y z sd tr dq e a c H As B Hs bu ex oh oc sh sc rg ce ar ps on ls pl ov oa sl) :
    da_V op x y z sd tr dq (e + 1) a c H As B Hs bu (nI (e + 1)) oh oc sh sc (upd rg (x (tr e).1).toNatClampNeg (da_tv op y z (tr e).1 rg ce)) ce ar (upd ps 1 (nI ((tr e).1 + 1))) on ls pl ov oa sl := by
  obtain ⟨G, ht, hlt, _⟩ := F
  obtain ⟨v1, v2, v3, v4, v5, v6, v7, v8⟩ := V
  obtain ⟨_, h7, h8, h9, h10, _⟩ := k
  have e1 := da_enc_t op x y z h7 h8 h9 h10
  have e2 : tr (e + 1) = _ := (ht e).trans (da_st_t op x y z h7 h8 h9 h10)
  refine ⟨rfl, by rw [e2, v2, v3], by rw [e2]; exact v3, ?_, da_IH_o op (by decide) v5, v6, ?_, ?_⟩
  · have := da_IH_adv op (s' := tr (e + 1)) (by rw [ht]; exact e1.1) (by rw [ht]; exact e1.2) v4
    rw [show (tr (e + 1)).1 = (tr e).1 + 1 by rw [e2]] at this
    exact this
  · exact da_IO_e op x y z (da_fo_n op x y z hn) v7
  · exact da_IS_e op y z (da_fc_n op y z h7) v8
theorem da_E_9 {sd : Nat → Bool} {dq e a c H : Nat} {As : List Nat} {B Hs : Nat} {bu ex oh oc sh sc : Int32} {rg ce ar ps on ls pl ov oa sl : Nat → Int32} (F : da_F op x y z n K m sd tr) (he : e < K) (ha : a ≤ K) (h9 : op (tr e).1 = 9) (hd : (da_enc op (tr e).1).length < 2) (V : da_V op x y z sd tr dq e a c H As B Hs bu ex oh oc sh sc rg ce ar ps on ls pl ov oa sl) :
    da_V op x y z sd tr dq (e + 1) a c H As B Hs bu (nI (e + 1)) oh oc sh sc rg ce ar (upd ps 1 (nI ((tr e).1 + 1))) (upd on 1 (nI ((da_enc op (tr e).1).length + 1))) (upd ls (2 * 1 + (da_enc op (tr e).1).length) (nI ((tr e).1 + 1))) (upd pl (2 * 1 + (da_enc op (tr e).1).length) (x (tr e).1)) ov oa sl := by
  have hla := da_F_len op x y z F ha
  obtain ⟨G, ht, hlt, _⟩ := F
  obtain ⟨v1, v2, v3, v4, v5, v6, v7, v8⟩ := V
  have e2 : tr (e + 1) = _ := (ht e).trans (da_st_9 op x y z h9)
  refine ⟨rfl, by rw [e2]; exact v2, by rw [e2]; exact v3, ?_, ?_, v6, ?_, ?_⟩
  · rw [ht]; exact da_IH_9 op x y z h9 v4
  · exact da_IH_o op (by decide) (da_IH_on op (by decide) (da_IH_sto op (h := 1) hla (by decide) (by omega) (by omega) v5))
  · exact da_IO_e op x y z (da_fo_n op x y z (da_nd_f op x (by rw [h9]; decide) (by rw [h9]; decide))) v7
  · exact da_IS_e op y z (da_fc_n op y z (by rw [h9]; decide)) v8
theorem da_E_10b {sd : Nat → Bool} {dq e a c H : Nat} {As : List Nat} {B Hs : Nat} {bu ex oh oc sh sc : Int32} {rg ce ar ps on ls pl ov oa sl : Nat → Int32} (F : da_F op x y z n K m sd tr) (he : e < K) (ha : a ≤ K) (h10 : op (tr e).1 = 10) {b p : Nat} {st : List Nat} (hs : da_enc op (tr e).1 = b :: st) (hp : (tr e).2.2.2 b = nI p) (hp6 : p ≤ 6) (hp1 : 2 ≤ p) (V : da_V op x y z sd tr dq e a c H As B Hs bu ex oh oc sh sc rg ce ar ps on ls pl ov oa sl) :
    da_V op x y z sd tr dq (e + 1) a c H As B Hs bu (nI (e + 1)) oh oc sh sc rg ce ar (upd ps 1 (nI (b + 1))) on ls (upd pl (2 * 1 + st.length) (nI (p - 1))) ov oa sl := by
  have hla := da_F_len op x y z F ha
  have hle := da_F_len op x y z F (Nat.le_of_lt he)
  rw [hs, List.length_cons] at hle
  obtain ⟨G, ht, hlt, _⟩ := F
  obtain ⟨v1, v2, v3, v4, v5, v6, v7, v8⟩ := V
  have e2 : tr (e + 1) = _ := (ht e).trans (da_st_10 op x y z h10 hs)
  refine ⟨rfl, by rw [e2]; exact v2, by rw [e2]; exact v3, ?_, ?_, v6, ?_, ?_⟩
  · rw [ht]; exact da_IH_10b op x y z h10 hs hp hp6 hp1 v4
  · exact da_IH_o op (by decide) (da_IH_stp op (h := 1) hla (by decide) (by omega) (by omega) v5)
  · exact da_IO_e op x y z (da_fo_n op x y z (da_nd_f op x (by rw [h10]; decide) (by rw [h10]; decide))) v7
  · exact da_IS_e op y z (da_fc_n op y z (by rw [h10]; decide)) v8
theorem da_E_10p {sd : Nat → Bool} {dq e a c H : Nat} {As : List Nat} {B Hs : Nat} {bu ex oh oc sh sc : Int32} {rg ce ar ps on ls pl ov oa sl : Nat → Int32} (F : da_F op x y z n K m sd tr) (he : e < K) (ha : a ≤ K) (h10 : op (tr e).1 = 10) {b p : Nat} {st : List Nat} (hs : da_enc op (tr e).1 = b :: st) (hp : (tr e).2.2.2 b = nI p) (hp1 : p = 1) (V : da_V op x y z sd tr dq e a c H As B Hs bu ex oh oc sh sc rg ce ar ps on ls pl ov oa sl) :
    da_V op x y z sd tr dq (e + 1) a c H As B Hs bu (nI (e + 1)) oh oc sh sc rg ce ar (upd ps 1 (nI ((tr e).1 + 1))) (upd on 1 (nI st.length)) ls (upd pl (2 * 1 + st.length) (nI (p - 1))) ov oa sl := by
  have hla := da_F_len op x y z F ha
  have hle := da_F_len op x y z F (Nat.le_of_lt he)
  rw [hs, List.length_cons] at hle
  obtain ⟨G, ht, hlt, _⟩ := F
  obtain ⟨v1, v2, v3, v4, v5, v6, v7, v8⟩ := V
  have e2 : tr (e + 1) = _ := (ht e).trans (da_st_10 op x y z h10 hs)
  refine ⟨rfl, by rw [e2]; exact v2, by rw [e2]; exact v3, ?_, ?_, v6, ?_, ?_⟩
  · rw [ht]; exact da_IH_10p op x y z h10 hs hp hp1 v4
  · exact da_IH_o op (by decide) (da_IH_on op (by decide) (da_IH_stp op (h := 1) hla (by decide) (by omega) (by omega) v5))
  · exact da_IO_e op x y z (da_fo_n op x y z (da_nd_f op x (by rw [h10]; decide) (by rw [h10]; decide))) v7
  · exact da_IS_e op y z (da_fc_n op y z (by rw [h10]; decide)) v8

/- access -/
theorem da_A_cl {sd : Nat → Bool} {dq e a c H : Nat} {As : List Nat} {B Hs : Nat} {bu ex oh oc sh sc : Int32} {rg ce ar ps on ls pl ov oa sl : Nat → Int32} (F : da_F op x y z n K m sd tr) (ha : a < K) (hk : op (tr a).1 = 6 ∨ op (tr a).1 = 7) (V : da_V op x y z sd tr dq e a c H As B Hs bu ex oh oc sh sc rg ce ar ps on ls pl ov oa sl) : da_cl y z (tr a).1 ar = da_cl y z (tr a).1 (tr a).2.1 := by
  obtain ⟨G, ht, hlt, _, hI, hC, hm, hsd, _⟩ := F
  obtain ⟨v1, v2, v3, v4, v5, v6, v7, v8⟩ := V
  have hy := (hC _ (hlt a ha)).1 hk
  have hb := (da_ok_B op x y z G.2.1 _ (hlt a ha)).1 (by rcases hk with h | h <;> rw [h] <;> decide)
  unfold da_cl
  rw [v6 _ hb (by rw [hsd]; exact hy)]
theorem da_A_7 {sd : Nat → Bool} {dq e a c H : Nat} {As : List Nat} {B Hs : Nat} {bu ex oh oc sh sc : Int32} {rg ce ar ps on ls pl ov oa sl : Nat → Int32} (F : da_F op x y z n K m sd tr) (ha : a < K) (hea : e ≤ a) (hd : dq ≤ 4) (h7 : op (tr a).1 = 7) {q : Nat} (hc : sc = nI q) (hq : q < dq) (V : da_V op x y z sd tr dq e a c H As B Hs bu ex oh oc sh sc rg ce ar ps on ls pl ov oa sl) :
    da_V op x y z sd tr dq e (a + 1) c H As B Hs bu ex oh oc sh (nI (q + 1)) rg ce ar (upd ps 0 (nI ((tr a).1 + 1))) on ls pl ov oa (upd sl ((Hs + q) % 4) (da_cl y z (tr a).1 ar)) := by
  have hcl := da_A_cl op x y z F ha (Or.inr h7) V
  obtain ⟨G, ht, _⟩ := F
  obtain ⟨v1, v2, v3, v4, v5, v6, v7, v8⟩ := V
  have e1 := da_enc_7 op x y z h7
  have e2 : tr (a + 1) = _ := (ht a).trans (da_st_7 op x y z h7)
  refine ⟨v1, v2, v3, da_IH_o op (by decide) v4, ?_, by rw [e2]; exact v6, ?_, ?_⟩
  · have := da_IH_adv op (s' := tr (a + 1)) (by rw [ht]; exact e1.1) (by rw [ht]; exact e1.2) v5
    rw [show (tr (a + 1)).1 = (tr a).1 + 1 by rw [e2]] at this
    exact this
  · exact da_IO_a op x y z (da_fo_n op x y z (da_nd_f op x (by rw [h7]; decide) (by rw [h7]; decide))) v7
  · rw [hcl]; exact da_IS_p op y z hd (da_fc_y op y z h7) hea hc hq v8
theorem da_A_8 {sd : Nat → Bool} {dq e a c H : Nat} {As : List Nat} {B Hs : Nat} {bu ex oh oc sh sc : Int32} {rg ce ar ps on ls pl ov oa sl : Nat → Int32} (F : da_F op x y z n K m sd tr) (ha : a < K) (hea : e ≤ a) (hd : dq ≤ 4) (h8 : op (tr a).1 = 8) {q : Nat} (hc : oc = nI q) (hq : q < dq) (hB : B ≤ c) (V : da_V op x y z sd tr dq e a c H As B Hs bu ex oh oc sh sc rg ce ar ps on ls pl ov oa sl) :
    ar (x (tr a).1).toNatClampNeg = (tr a).2.1 (x (tr a).1).toNatClampNeg ∧
    da_V op x y z sd tr dq e (a + 1) c H (As ++ [c]) B Hs bu ex oh (nI (q + 1)) sh sc rg ce ar (upd ps 0 (nI (tr (a + 1)).1)) on ls pl (upd ov ((H + q) % 4) (if ar (x (tr a).1).toNatClampNeg = 0 then y (tr a).1 else 0)) (upd oa ((H + q) % 4) (nI c)) sl := by
  obtain ⟨G, ht, hlt, _, hI, hC, hm, hsd, _⟩ := F
  obtain ⟨v1, v2, v3, v4, v5, v6, v7, v8⟩ := V
  have e1 := da_enc_8 op x y z G (hlt a ha) h8
  have e2 : tr (a + 1) = _ := (ht a).trans (da_st_8 op x y z h8)
  have hx := (hC _ (hlt a ha)).2.1 h8
  have hb := (da_ok_B op x y z G.2.1 _ (hlt a ha)).2.1 h8
  have hr := v6 _ hb (by rw [hsd]; exact hx)
  refine ⟨hr, v1, v2, v3, da_IH_o op (by decide) v4, ?_, by rw [e2]; exact v6, ?_, ?_⟩
  · exact da_IH_adv op (s' := tr (a + 1)) (by rw [ht]; exact e1.1) (by rw [ht]; exact e1.2) v5
  · rw [hr]
    have hf := da_fo_y op x y z (sd := sd) (tr := tr) (k := a) (da_nd_8 op x h8)
    rw [da_ov_8 op x y z h8] at hf
    have hbu := v7.2.2.2.2.2.2.2.1
    have := da_IO_p op x y z (t := c) (B' := B) hd hf hea hc hq (by omega) (Or.inr hB) v7
    rw [hbu]; exact this
  · exact da_IS_a op y z (da_fc_n op y z (by rw [h8]; decide)) v8
theorem da_A_6v {sd : Nat → Bool} {dq e a c H : Nat} {As : List Nat} {B Hs : Nat} {bu ex oh oc sh sc : Int32} {rg ce ar ps on ls pl ov oa sl : Nat → Int32} (F : da_F op x y z n K m sd tr) (ha : a < K) (hea : e ≤ a) (h6 : op (tr a).1 = 6) (hcl : ¬ da_cl y z (tr a).1 ar ∈ da_ls (da_fc op y z tr) (a - e) e) (V : da_V op x y z sd tr dq e a c H As B Hs bu ex oh oc sh sc rg ce ar ps on ls pl ov oa sl) :
    ce (da_cl y z (tr a).1 ar).toNatClampNeg = da_tv op y z (tr a).1 (tr a).2.1 (tr a).2.2.1 := by
  have hc := da_A_cl op x y z F ha (Or.inl h6) V
  obtain ⟨G, ht, hlt, _, hI, hC, hm, hsd, hM⟩ := F
  obtain ⟨v1, v2, v3, v4, v5, v6, v7, v8⟩ := V
  rw [hc] at hcl
  have := hM _ (da_cl_in y z (tr a).1 (tr a).2.1) _ _ hcl
  rw [show e + (a - e) = a by omega] at this
  rw [hc, v3, ← this]
  unfold da_tv
  rw [if_neg (by rw [h6]; decide), if_pos h6]
theorem da_A_6s {sd : Nat → Bool} {dq e a c H : Nat} {As : List Nat} {B Hs : Nat} {bu ex oh oc sh sc : Int32} {rg ce ar ps on ls pl ov oa sl : Nat → Int32} (F : da_F op x y z n K m sd tr) (ha : a < K) (hea : e ≤ a) (hd : dq ≤ 4) (h6 : op (tr a).1 = 6) {q l : Nat} (hl : l ≤ 6) (hc : oc = nI q) (hq : q < dq)
    (hcl : ¬ da_cl y z (tr a).1 ar ∈ da_ls (da_fc op y z tr) (a - e) e) (hs : sd (x (tr a).1).toNatClampNeg = true) (V : da_V op x y z sd tr dq e a c H As B Hs bu ex oh oc sh sc rg ce ar ps on ls pl ov oa sl) :
    da_V op x y z sd tr dq e (a + 1) c H (As ++ [c + l]) (c + l) Hs (nI (c + l)) ex oh (nI (q + 1)) sh sc rg ce (upd ar (x (tr a).1).toNatClampNeg (ce (da_cl y z (tr a).1 ar).toNatClampNeg)) (upd ps 0 (nI ((tr a).1 + 1))) on ls pl (upd ov ((H + q) % 4) (ce (da_cl y z (tr a).1 ar).toNatClampNeg)) (upd oa ((H + q) % 4) (nI (c + l))) sl := by
  have hv := da_A_6v op x y z F ha hea h6 hcl V
  obtain ⟨G, ht, hlt, _, hI, hC, hm, hsd, _⟩ := F
  obtain ⟨v1, v2, v3, v4, v5, v6, v7, v8⟩ := V
  have h7 : ¬ op (tr a).1 = 7 := by rw [h6]; decide
  have h8 : ¬ op (tr a).1 = 8 := by rw [h6]; decide
  have h9 : ¬ op (tr a).1 = 9 := by rw [h6]; decide
  have h10 : ¬ op (tr a).1 = 10 := by rw [h6]; decide
  have e1 := da_enc_t op x y z h7 h8 h9 h10
  have e2 : tr (a + 1) = _ := (ht a).trans (da_st_t op x y z h7 h8 h9 h10)
  rw [hv]
  refine ⟨v1, v2, v3, da_IH_o op (by decide) v4, ?_, by rw [e2]; exact da_RA_u v6, ?_, ?_⟩
  · have := da_IH_adv op (s' := tr (a + 1)) (by rw [ht]; exact e1.1) (by rw [ht]; exact e1.2) v5
    rw [show (tr (a + 1)).1 = (tr a).1 + 1 by rw [e2]] at this
    exact this
  · have hf := da_fo_y op x y z (sd := sd) (tr := tr) (k := a) (da_nd_6 op x h6)
    rw [da_ov_t op x y z h8] at hf
    exact da_IO_p op x y z (t := c + l) (B' := c + l) hd hf hea hc hq (by omega) (Or.inl rfl) v7
  · exact da_IS_a op y z (da_fc_n op y z h7) v8
theorem da_A_6n {sd : Nat → Bool} {dq e a c H : Nat} {As : List Nat} {B Hs : Nat} {bu ex oh oc sh sc : Int32} {rg ce ar ps on ls pl ov oa sl : Nat → Int32} (F : da_F op x y z n K m sd tr) (ha : a < K) (hea : e ≤ a) (hd : dq ≤ 4) (h6 : op (tr a).1 = 6) {q l : Nat} (hl : l ≤ 6) (hc : oc = nI q) (hq : q < dq) (hB : B ≤ c)
    (hcl : ¬ da_cl y z (tr a).1 ar ∈ da_ls (da_fc op y z tr) (a - e) e) (hs : sd (x (tr a).1).toNatClampNeg = false) (V : da_V op x y z sd tr dq e a c H As B Hs bu ex oh oc sh sc rg ce ar ps on ls pl ov oa sl) :
    da_V op x y z sd tr dq e (a + 1) c H (As ++ [c + l]) B Hs bu ex oh (nI (q + 1)) sh sc rg ce ar (upd ps 0 (nI ((tr a).1 + 1))) on ls pl (upd ov ((H + q) % 4) (ce (da_cl y z (tr a).1 ar).toNatClampNeg)) (upd oa ((H + q) % 4) (nI (c + l))) sl := by
  have hv := da_A_6v op x y z F ha hea h6 hcl V
  obtain ⟨G, ht, hlt, _, hI, hC, hm, hsd, _⟩ := F
  obtain ⟨v1, v2, v3, v4, v5, v6, v7, v8⟩ := V
  have h7 : ¬ op (tr a).1 = 7 := by rw [h6]; decide
  have h8 : ¬ op (tr a).1 = 8 := by rw [h6]; decide
  have h9 : ¬ op (tr a).1 = 9 := by rw [h6]; decide
  have h10 : ¬ op (tr a).1 = 10 := by rw [h6]; decide
  have e1 := da_enc_t op x y z h7 h8 h9 h10
  have e2 : tr (a + 1) = _ := (ht a).trans (da_st_t op x y z h7 h8 h9 h10)
  rw [hv]
  refine ⟨v1, v2, v3, da_IH_o op (by decide) v4, ?_, by rw [e2]; exact da_RA_n hs v6, ?_, ?_⟩
  · have := da_IH_adv op (s' := tr (a + 1)) (by rw [ht]; exact e1.1) (by rw [ht]; exact e1.2) v5
    rw [show (tr (a + 1)).1 = (tr a).1 + 1 by rw [e2]] at this
    exact this
  · have hf := da_fo_y op x y z (sd := sd) (tr := tr) (k := a) (da_nd_6 op x h6)
    rw [da_ov_t op x y z h8] at hf
    have hbu := v7.2.2.2.2.2.2.2.1
    have := da_IO_p op x y z (t := c + l) (B' := B) hd hf hea hc hq (by omega) (Or.inr hB) v7
    rw [hbu]; exact this
  · exact da_IS_a op y z (da_fc_n op y z h7) v8
theorem da_A_tv {sd : Nat → Bool} {dq e a c H : Nat} {As : List Nat} {B Hs : Nat} {bu ex oh oc sh sc : Int32} {rg ce ar ps on ls pl ov oa sl : Nat → Int32} (F : da_F op x y z n K m sd tr) (ha : a < K) (k : da_kT op x y z (tr a).1) (h6 : ¬ op (tr a).1 = 6) (hs : sd (x (tr a).1).toNatClampNeg = true) (V : da_V op x y z sd tr dq e a c H As B Hs bu ex oh oc sh sc rg ce ar ps on ls pl ov oa sl) :
    da_tv op y z (tr a).1 ar ce = da_tv op y z (tr a).1 (tr a).2.1 (tr a).2.2.1 := by
  obtain ⟨G, ht, hlt, _, hI, hC, hm, hsd, _⟩ := F
  obtain ⟨v1, v2, v3, v4, v5, v6, v7, v8⟩ := V
  obtain ⟨k6, _, _, _, _, _, _, k5⟩ := k
  obtain ⟨_, _, c3, c4⟩ := hC _ (hlt a ha)
  obtain ⟨b1, _, b3⟩ := da_ok_B op x y z G.2.1 _ (hlt a ha)
  rw [hsd] at hs
  have hy := v6 _ (b1 (da_67 k6)) (by rw [hsd]; exact c3 k6 hs)
  unfold da_tv
  by_cases h5 : op (tr a).1 = 5
  · rw [if_pos h5, if_pos h5, hy]
  · rw [if_neg h5, if_neg h5, if_neg h6, if_neg h6]
    rcases k5 with h | h | ⟨h4, _⟩
    · exact absurd h h5
    · exact absurd h h6
    · rw [hy, v6 _ (b3 h4) (by rw [hsd]; exact c4 h4 hs)]
theorem da_A_tn {sd : Nat → Bool} {dq e a c H : Nat} {As : List Nat} {B Hs : Nat} {bu ex oh oc sh sc : Int32} {rg ce ar ps on ls pl ov oa sl : Nat → Int32} (F : da_F op x y z n K m sd tr) (ha : a < K) (hea : e ≤ a) (hd : dq ≤ 4) (k : da_kT op x y z (tr a).1) (h6 : ¬ op (tr a).1 = 6) (hs : sd (x (tr a).1).toNatClampNeg = true) {q : Nat} (hc : oc = nI q) (hq : q < dq) (hB : B ≤ c) (V : da_V op x y z sd tr dq e a c H As B Hs bu ex oh oc sh sc rg ce ar ps on ls pl ov oa sl) :
    da_V op x y z sd tr dq e (a + 1) c H (As ++ [c]) B Hs bu ex oh (nI (q + 1)) sh sc rg ce (upd ar (x (tr a).1).toNatClampNeg (da_tv op y z (tr a).1 ar ce)) (upd ps 0 (nI ((tr a).1 + 1))) on ls pl (upd ov ((H + q) % 4) (da_tv op y z (tr a).1 ar ce)) (upd oa ((H + q) % 4) (nI c)) sl := by
  have hv := da_A_tv op x y z F ha k h6 hs V
  obtain ⟨G, ht, hlt, _, hI, hC, hm, hsd, _⟩ := F
  obtain ⟨v1, v2, v3, v4, v5, v6, v7, v8⟩ := V
  obtain ⟨k6, h7, h8, h9, h10, _⟩ := k
  have e1 := da_enc_t op x y z h7 h8 h9 h10
  have e2 : tr (a + 1) = _ := (ht a).trans (da_st_t op x y z h7 h8 h9 h10)
  rw [hv]
  refine ⟨v1, v2, v3, da_IH_o op (by decide) v4, ?_, by rw [e2]; exact da_RA_u v6, ?_, ?_⟩
  · have := da_IH_adv op (s' := tr (a + 1)) (by rw [ht]; exact e1.1) (by rw [ht]; exact e1.2) v5
    rw [show (tr (a + 1)).1 = (tr a).1 + 1 by rw [e2]] at this
    exact this
  · have hf := da_fo_y op x y z (sd := sd) (tr := tr) (k := a) (by rw [da_nd_t op x k6 h6]; exact hs)
    rw [da_ov_t op x y z h8] at hf
    have hbu := v7.2.2.2.2.2.2.2.1
    have := da_IO_p op x y z (t := c) (B' := B) hd hf hea hc hq (by omega) (Or.inr hB) v7
    rw [hbu]; exact this
  · exact da_IS_a op y z (da_fc_n op y z h7) v8
theorem da_A_tf {sd : Nat → Bool} {dq e a c H : Nat} {As : List Nat} {B Hs : Nat} {bu ex oh oc sh sc : Int32} {rg ce ar ps on ls pl ov oa sl : Nat → Int32} (F : da_F op x y z n K m sd tr) (ha : a < K) (k : da_kT op x y z (tr a).1) (h6 : ¬ op (tr a).1 = 6) (hs : sd (x (tr a).1).toNatClampNeg = false) (V : da_V op x y z sd tr dq e a c H As B Hs bu ex oh oc sh sc rg ce ar ps on ls pl ov oa sl) :
    da_V op x y z sd tr dq e (a + 1) c H As B Hs bu ex oh oc sh sc rg ce ar (upd ps 0 (nI ((tr a).1 + 1))) on ls pl ov oa sl := by
  obtain ⟨G, ht, hlt, _, hI, hC, hm, hsd, _⟩ := F
  obtain ⟨v1, v2, v3, v4, v5, v6, v7, v8⟩ := V
  obtain ⟨k6, h7, h8, h9, h10, _⟩ := k
  have e1 := da_enc_t op x y z h7 h8 h9 h10
  have e2 : tr (a + 1) = _ := (ht a).trans (da_st_t op x y z h7 h8 h9 h10)
  refine ⟨v1, v2, v3, da_IH_o op (by decide) v4, ?_, by rw [e2]; exact da_RA_n hs v6, ?_, ?_⟩
  · have := da_IH_adv op (s' := tr (a + 1)) (by rw [ht]; exact e1.1) (by rw [ht]; exact e1.2) v5
    rw [show (tr (a + 1)).1 = (tr a).1 + 1 by rw [e2]] at this
    exact this
  · exact da_IO_a op x y z (da_fo_n op x y z (by rw [da_nd_t op x k6 h6]; exact hs)) v7
  · exact da_IS_a op y z (da_fc_n op y z h7) v8
theorem da_A_9 {sd : Nat → Bool} {dq e a c H : Nat} {As : List Nat} {B Hs : Nat} {bu ex oh oc sh sc : Int32} {rg ce ar ps on ls pl ov oa sl : Nat → Int32} (F : da_F op x y z n K m sd tr) (ha : a < K) (he : e ≤ K) (h9 : op (tr a).1 = 9) (hd : (da_enc op (tr a).1).length < 2) (V : da_V op x y z sd tr dq e a c H As B Hs bu ex oh oc sh sc rg ce ar ps on ls pl ov oa sl) :
    da_V op x y z sd tr dq e (a + 1) c H As B Hs bu ex oh oc sh sc rg ce ar (upd ps 0 (nI ((tr a).1 + 1))) (upd on 0 (nI ((da_enc op (tr a).1).length + 1))) (upd ls (2 * 0 + (da_enc op (tr a).1).length) (nI ((tr a).1 + 1))) (upd pl (2 * 0 + (da_enc op (tr a).1).length) (x (tr a).1)) ov oa sl := by
  have hla := da_F_len op x y z F he
  obtain ⟨G, ht, hlt, _⟩ := F
  obtain ⟨v1, v2, v3, v4, v5, v6, v7, v8⟩ := V
  have e2 : tr (a + 1) = _ := (ht a).trans (da_st_9 op x y z h9)
  refine ⟨v1, v2, v3, ?_, ?_, by rw [e2]; exact v6, ?_, ?_⟩
  · exact da_IH_o op (by decide) (da_IH_on op (by decide) (da_IH_sto op (h := 0) hla (by decide) (by omega) (by omega) v4))
  · rw [ht]; exact da_IH_9 op x y z h9 v5
  · exact da_IO_a op x y z (da_fo_n op x y z (da_nd_f op x (by rw [h9]; decide) (by rw [h9]; decide))) v7
  · exact da_IS_a op y z (da_fc_n op y z (by rw [h9]; decide)) v8
theorem da_A_10b {sd : Nat → Bool} {dq e a c H : Nat} {As : List Nat} {B Hs : Nat} {bu ex oh oc sh sc : Int32} {rg ce ar ps on ls pl ov oa sl : Nat → Int32} (F : da_F op x y z n K m sd tr) (ha : a < K) (he : e ≤ K) (h10 : op (tr a).1 = 10) {b p : Nat} {st : List Nat} (hs : da_enc op (tr a).1 = b :: st) (hp : (tr a).2.2.2 b = nI p) (hp6 : p ≤ 6) (hp1 : 2 ≤ p) (V : da_V op x y z sd tr dq e a c H As B Hs bu ex oh oc sh sc rg ce ar ps on ls pl ov oa sl) :
    da_V op x y z sd tr dq e (a + 1) c H As B Hs bu ex oh oc sh sc rg ce ar (upd ps 0 (nI (b + 1))) on ls (upd pl (2 * 0 + st.length) (nI (p - 1))) ov oa sl := by
  have hla := da_F_len op x y z F he
  have hle := da_F_len op x y z F (Nat.le_of_lt ha)
  rw [hs, List.length_cons] at hle
  obtain ⟨G, ht, hlt, _⟩ := F
  obtain ⟨v1, v2, v3, v4, v5, v6, v7, v8⟩ := V
  have e2 : tr (a + 1) = _ := (ht a).trans (da_st_10 op x y z h10 hs)
  refine ⟨v1, v2, v3, ?_, ?_, by rw [e2]; exact v6, ?_, ?_⟩
  · exact da_IH_o op (by decide) (da_IH_stp op (h := 0) hla (by decide) (by omega) (by omega) v4)
  · rw [ht]; exact da_IH_10b op x y z h10 hs hp hp6 hp1 v5
  · exact da_IO_a op x y z (da_fo_n op x y z (da_nd_f op x (by rw [h10]; decide) (by rw [h10]; decide))) v7
  · exact da_IS_a op y z (da_fc_n op y z (by rw [h10]; decide)) v8
theorem da_A_10p {sd : Nat → Bool} {dq e a c H : Nat} {As : List Nat} {B Hs : Nat} {bu ex oh oc sh sc : Int32} {rg ce ar ps on ls pl ov oa sl : Nat → Int32} (F : da_F op x y z n K m sd tr) (ha : a < K) (he : e ≤ K) (h10 : op (tr a).1 = 10) {b p : Nat} {st : List Nat} (hs : da_enc op (tr a).1 = b :: st) (hp : (tr a).2.2.2 b = nI p) (hp1 : p = 1) (V : da_V op x y z sd tr dq e a c H As B Hs bu ex oh oc sh sc rg ce ar ps on ls pl ov oa sl) :
    da_V op x y z sd tr dq e (a + 1) c H As B Hs bu ex oh oc sh sc rg ce ar (upd ps 0 (nI ((tr a).1 + 1))) (upd on 0 (nI st.length)) ls (upd pl (2 * 0 + st.length) (nI (p - 1))) ov oa sl := by
  have hla := da_F_len op x y z F he
  have hle := da_F_len op x y z F (Nat.le_of_lt ha)
  rw [hs, List.length_cons] at hle
  obtain ⟨G, ht, hlt, _⟩ := F
  obtain ⟨v1, v2, v3, v4, v5, v6, v7, v8⟩ := V
  have e2 : tr (a + 1) = _ := (ht a).trans (da_st_10 op x y z h10 hs)
  refine ⟨v1, v2, v3, ?_, ?_, by rw [e2]; exact v6, ?_, ?_⟩
  · exact da_IH_o op (by decide) (da_IH_on op (by decide) (da_IH_stp op (h := 0) hla (by decide) (by omega) (by omega) v4))
  · rw [ht]; exact da_IH_10p op x y z h10 hs hp hp1 v5
  · exact da_IO_a op x y z (da_fo_n op x y z (da_nd_f op x (by rw [h10]; decide) (by rw [h10]; decide))) v7
  · exact da_IS_a op y z (da_fc_n op y z (by rw [h10]; decide)) v8
theorem da_F_mk {n : Nat} (hn : n ≤ 24) (ho : ∀ i, i < n → da_ok op x y z i) (hw : da_wf op y n = true) (R M L : Nat → Int32) :
    ∃ K, K ≤ 864 ∧ da_F op x y z n K (da_X op x y z n) (fun r => (da_X op x y z n).testBit r) (da_tr op x y z (0, R, M, L)) := by
  have G := da_G_of op x y z hn ho hw
  have B := da_ok_B op x y z ho
  obtain ⟨K, k1, k2, k3, k4⟩ := da_run0 op x y z G R M L
  exact ⟨K, k1, G, fun _ => rfl, k3, k2, k4, da_X_C op x y z B, da_X_256 op x y z B, fun _ => rfl, fun c hc q k h => da_M_ls op x y z (0, R, M, L) c hc q k h⟩
end
end
section
/-! The relation, the constructors, the small methods -/
def i_Rel (k : Nat) (u : SX) (v : SY) : Prop :=
  ∃ (dq lt n : Nat) (rs bu cy ex oh oc sh sc : Int32) (op x y z rg ce ar ps on ls pl ov oa sl lf : Nat → Int32),
    1 ≤ dq ∧ dq ≤ 4 ∧ 1 ≤ lt ∧ lt ≤ 6 ∧ n ≤ 24 ∧ (∀ i, i < n → da_ok op x y z i) ∧
    u = ((nI dq), (nI lt), (nI n), rs, bu, cy, ex, oh, oc, sh, sc, op, x, y, z, rg, ce, ar, ps, on, ls, pl, ov, oa, sl) ∧ v = ((nI n), op, x, y, z, rg, ce, lf)
theorem i_up {k : Nat} {u : SX} {v : SY} (h : i_Rel k u v) : i_Rel (k + 5) u v := h
theorem da_Rel (k : Nat) {dq lt n : Nat} {rs bu cy ex oh oc sh sc : Int32} {op x y z rg ce ar ps on ls pl ov oa sl lf : Nat → Int32}
    (h1 : 1 ≤ dq) (h2 : dq ≤ 4) (h3 : 1 ≤ lt) (h4 : lt ≤ 6) (h5 : n ≤ 24) (h6 : ∀ i, i < n → da_ok op x y z i) :
    i_Rel k ((nI dq), (nI lt), (nI n), rs, bu, cy, ex, oh, oc, sh, sc, op, x, y, z, rg, ce, ar, ps, on, ls, pl, ov, oa, sl) ((nI n), op, x, y, z, rg, ce, lf) :=
  ⟨dq, lt, n, rs, bu, cy, ex, oh, oc, sh, sc, op, x, y, z, rg, ce, ar, ps, on, ls, pl, ov, oa, sl, lf, h1, h2, h3, h4, h5, h6, rfl, rfl⟩
theorem da_clamp {post : Int32 → Prop} {p : Int32} (m : Nat) (h1 : 1 ≤ m) (hm : m < 2 ^ 31) (h : ∀ j : Nat, 1 ≤ j → j ≤ m → post (nI j)) : wpX_clamped post p (nI m) := by
  by_cases c : (1 : Int32) ≤ p
  · obtain ⟨j, hj, rfl⟩ := nI_of (x := p) (Int32.not_lt.mpr (Int32.le_trans (by decide) c))
    have c1 : 1 ≤ j := (nI_leI (a := 1) (by omega) hj).mp c
    refine br_t c ?_
    by_cases c2 : j ≤ m
    · exact br_t (nI_le c2 hm) (h j c1 c2)
    · exact br_f (nI_ge (by omega) hj) (h m h1 (Nat.le_refl _))
  · exact br_f c (h 1 (Nat.le_refl _) h1)
theorem i_vc0 (k0 : Int32) (k1 : Int32) : wpX_init (fun u => wpY_init (fun v => i_Rel 2 u v) k0 k1) k0 k1 :=
  da_clamp 4 (by decide) (by decide) (fun _ h1 h2 => da_clamp 6 (by decide) (by decide) (fun _ h3 h4 =>
    da_Rel 2 (n := 0) h1 h2 h3 h4 (Nat.zero_le _) (fun i hi => absurd hi (Nat.not_lt_zero i))))

theorem da_xReg1 {post : Int32 → Prop} {j : Nat} (hj : j < 8) (hp : post 1) : wpX_isRegister post (nI j) :=
  br_f (nI_pos (by omega)) (br_f (nI_ge (b := 8) hj (by decide)) hp)
theorem da_xReg0 {post : Int32 → Prop} {v : Int32} (h : v < 0 ∨ nI 8 ≤ v) (hp : post 0) : wpX_isRegister post v := by
  by_cases c : v < 0
  · exact br_t c hp
  · exact br_f c (br_t (h.resolve_left c) hp)
theorem da_yReg1 {post : Int32 → Prop} {yn : Int32} {op x y z rg ce lf : Nat → Int32} {j : Nat} (hj : j < 8) (hp : post 1) : wpY_isRegister post (yn, op, x, y, z, rg, ce, lf) (nI j) :=
  br_f (nI_pos (by omega)) (br_f (nI_nlt (a := 7) (by omega) (by decide)) hp)
theorem da_yReg0 {post : Int32 → Prop} {yn : Int32} {op x y z rg ce lf : Nat → Int32} {v : Int32} (h : v < 0 ∨ nI 8 ≤ v) (hp : post 0) : wpY_isRegister post (yn, op, x, y, z, rg, ce, lf) v := by
  by_cases c : v < 0
  · exact br_t c hp
  · have h8 : (8 : Int32) ≤ v := h.resolve_left c
    exact br_f c (br_t (Int32.lt_of_lt_of_le (by decide) h8) hp)
theorem da_ix8 (v : Int32) : (v < 0 ∨ nI 8 ≤ v) ∨ ∃ j : Nat, j < 8 ∧ v = nI j := by
  rcases pk_ix v (n := 8) (by decide) with h | h | h
  · exact Or.inl (Or.inl h)
  · exact Or.inl (Or.inr h)
  · exact Or.inr h
theorem da_n10 : ¬ (1 : Int32) = 0 := by decide

def da_okv (o a b c : Int32) : Prop := da_ok (fun _ => o) (fun _ => a) (fun _ => b) (fun _ => c) 0
theorem da_X60 : ∀ k : Nat, k ≤ 4 → ∀ (post : Int32 → Prop) (a b c : Int32), wX_isInstruction_60 post a b c → wpX_isInstruction post (nI k) a b c
  | 0, _, _, _, _, _, h => br_f (by decide) (br_f (by decide) (br_t rfl h))
  | 1, _, _, _, _, _, h => br_f (by decide) (br_f (by decide) (br_f (by decide) (br_t rfl h)))
  | 2, _, _, _, _, _, h => br_f (by decide) (br_f (by decide) (br_f (by decide) (br_f (by decide) (br_t rfl h))))
  | 3, _, _, _, _, _, h => br_f (by decide) (br_f (by decide) (br_f (by decide) (br_f (by decide) (br_f (by decide) (br_t rfl h)))))
  | 4, _, _, _, _, _, h => br_f (by decide) (br_f (by decide) (br_f (by decide) (br_f (by decide) (br_f (by decide) (br_f (by decide) (br_t rfl h))))))
  | _ + 5, hk, _, _, _, _, _ => absurd hk (by omega)
theorem da_X87 : ∀ k : Nat, 5 ≤ k → k ≤ 7 → ∀ (post : Int32 → Prop) (a b c : Int32), wX_isInstruction_87 post a b → wpX_isInstruction post (nI k) a b c := by
  intro k h5 h7 post a b c h
  have h9 : ∀ q : Nat, q < 5 → ¬ nI k = nI q := fun q hq e => by
    have := (nI_eq (by omega) (by omega)).mp e
    omega
  refine br_f (nI_pos (by omega)) (br_f (nI_nlt (a := 10) (by omega) (by decide)) (br_f (h9 0 (by omega)) (br_f (h9 1 (by omega)) (br_f (h9 2 (by omega)) (br_f (h9 3 (by omega)) (br_f (h9 4 (by omega)) ?_))))))
  by_cases e5 : k = 5
  · rw [e5]; exact br_t rfl h
  · have n5 : ¬ nI k = nI 5 := fun e => e5 ((nI_eq (by omega) (by omega)).mp e)
    by_cases e6 : k = 6
    · rw [e6]; exact br_f (by decide) (br_t rfl h)
    · rw [show k = 7 by omega]; exact br_f (by decide) (br_f (by decide) (br_t rfl h))
theorem da_X8 {post : Int32 → Prop} {a b c : Int32} (h : wpX_isRegister (fun r_22 => (((r_22 = 0 → (post 0)) ∧ (¬ r_22 = 0 → (((b < 1 → (post 0)) ∧ (¬ b < 1 → (((8 < b → (post 0)) ∧ (¬ 8 < b → (post 1))))))))))) a) : wpX_isInstruction post 8 a b c :=
  br_f (by decide) (br_f (by decide) (br_f (by decide) (br_f (by decide) (br_f (by decide) (br_f (by decide) (br_f (by decide) (br_f (by decide) (br_f (by decide) (br_f (by decide) (br_t rfl h))))))))))
theorem da_X9 {post : Int32 → Prop} {a b c : Int32} (h : ((a < 1 → (post 0)) ∧ (¬ a < 1 → (((6 < a → (post 0)) ∧ (¬ 6 < a → (post 1))))))) : wpX_isInstruction post 9 a b c :=
  br_f (by decide) (br_f (by decide) (br_f (by decide) (br_f (by decide) (br_f (by decide) (br_f (by decide) (br_f (by decide) (br_f (by decide) (br_f (by decide) (br_f (by decide) (br_f (by decide) (br_t rfl h)))))))))))
theorem da_X10 {post : Int32 → Prop} {a b c : Int32} (h : post 1) : wpX_isInstruction post 10 a b c :=
  br_f (by decide) (br_f (by decide) (br_f (by decide) (br_f (by decide) (br_f (by decide) (br_f (by decide) (br_f (by decide) (br_f (by decide) (br_f (by decide) (br_f (by decide) (br_f (by decide) (br_f (by decide) (br_t rfl h))))))))))))

theorem da_ins (o a b c : Int32) : ∃ r : Int32, (r = 0 ∨ (r = 1 ∧ da_okv o a b c)) ∧ (∀ post : Int32 → Prop, post r → wpX_isInstruction post o a b c) ∧
    (∀ (post : Int32 → Prop) (yn : Int32) (op x y z rg ce lf : Nat → Int32), post r → wpY_fits post (yn, op, x, y, z, rg, ce, lf) o a b c) := by
  rcases pk_ix o (n := 11) (by decide) with h | h | ⟨k, hk, rfl⟩
  · exact ⟨0, Or.inl rfl, fun post hp => br_t h hp, fun post _ _ _ _ _ _ _ _ hp => br_t h hp⟩
  · have h11 : (11 : Int32) ≤ o := h
    have n0 : ¬ o < 0 := Int32.not_lt.mpr (Int32.le_trans (by decide) h11)
    have n10 : (10 : Int32) < o := Int32.lt_of_lt_of_le (by decide) h11
    exact ⟨0, Or.inl rfl, fun post hp => br_f n0 (br_t n10 hp), fun post _ _ _ _ _ _ _ _ hp => br_f n0 (br_f (Int32.not_le.mpr n10) hp)⟩
  · have n0 : ¬ nI k < 0 := nI_pos (by omega)
    have l10 : nI k ≤ 10 := nI_le (b := 10) (by omega) (by decide)
    by_cases k4 : k ≤ 4
    · have n4 : ¬ (4 : Int32) < nI k := nI_nlt (a := 4) (by omega) (by decide)
      rcases da_ix8 a with ha | ⟨i, hi, rfl⟩
      · exact ⟨0, Or.inl rfl, fun post hp => da_X60 k k4 _ _ _ _ (da_xReg0 ha (br_t rfl hp)),
          fun post _ _ _ _ _ _ _ _ hp => br_f n0 (br_t l10 (br_f n4 (da_yReg0 ha (br_t rfl hp))))⟩
      · rcases da_ix8 b with hb | ⟨j, hj, rfl⟩
        · exact ⟨0, Or.inl rfl, fun post hp => da_X60 k k4 _ _ _ _ (da_xReg1 hi (br_f da_n10 (da_xReg0 hb (br_t rfl hp)))),
            fun post _ _ _ _ _ _ _ _ hp => br_f n0 (br_t l10 (br_f n4 (da_yReg1 hi (br_f da_n10 (da_yReg0 hb (br_t rfl hp))))))⟩
        · rcases da_ix8 c with hc | ⟨l, hl, rfl⟩
          · exact ⟨0, Or.inl rfl, fun post hp => da_X60 k k4 _ _ _ _ (da_xReg1 hi (br_f da_n10 (da_xReg1 hj (br_f da_n10 (da_xReg0 hc (br_t rfl hp)))))),
              fun post _ _ _ _ _ _ _ _ hp => br_f n0 (br_t l10 (br_f n4 (da_yReg1 hi (br_f da_n10 (da_yReg1 hj (br_f da_n10 (da_yReg0 hc (br_t rfl hp))))))))⟩
          · exact ⟨1, Or.inr ⟨rfl, Or.inl ⟨k, i, j, l, k4, hi, hj, hl, rfl, rfl, rfl, rfl⟩⟩, fun post hp => da_X60 k k4 _ _ _ _ (da_xReg1 hi (br_f da_n10 (da_xReg1 hj (br_f da_n10 (da_xReg1 hl (br_f da_n10 hp)))))),
              fun post _ _ _ _ _ _ _ _ hp => br_f n0 (br_t l10 (br_f n4 (da_yReg1 hi (br_f da_n10 (da_yReg1 hj (br_f da_n10 (da_yReg1 hl (br_f da_n10 hp))))))))⟩
    · have p4 : (4 : Int32) < nI k := nI_lt (a := 4) (by omega) (by omega)
      by_cases k7 : k ≤ 7
      · have n7 : ¬ (7 : Int32) < nI k := nI_nlt (a := 7) (by omega) (by decide)
        rcases da_ix8 a with ha | ⟨i, hi, rfl⟩
        · exact ⟨0, Or.inl rfl, fun post hp => da_X87 k (by omega) k7 _ _ _ _ (da_xReg0 ha (br_t rfl hp)),
            fun post _ _ _ _ _ _ _ _ hp => br_f n0 (br_t l10 (br_t p4 (br_f n7 (da_yReg0 ha (br_t rfl hp)))))⟩
        · rcases da_ix8 b with hb | ⟨j, hj, rfl⟩
          · exact ⟨0, Or.inl rfl, fun post hp => da_X87 k (by omega) k7 _ _ _ _ (da_xReg1 hi (br_f da_n10 (da_xReg0 hb (br_t rfl hp)))),
              fun post _ _ _ _ _ _ _ _ hp => br_f n0 (br_t l10 (br_t p4 (br_f n7 (da_yReg1 hi (br_f da_n10 (da_yReg0 hb (br_t rfl hp)))))))⟩
          · exact ⟨1, Or.inr ⟨rfl, Or.inr (Or.inl ⟨k, i, j, by omega, k7, hi, hj, rfl, rfl, rfl⟩)⟩, fun post hp => da_X87 k (by omega) k7 _ _ _ _ (da_xReg1 hi (br_f da_n10 (da_xReg1 hj (br_f da_n10 hp)))),
              fun post _ _ _ _ _ _ _ _ hp => br_f n0 (br_t l10 (br_t p4 (br_f n7 (da_yReg1 hi (br_f da_n10 (da_yReg1 hj (br_f da_n10 hp)))))))⟩
      · have p7 : (7 : Int32) < nI k := nI_lt (a := 7) (by omega) (by omega)
        by_cases k8 : k = 8
        · subst k8
          rcases da_ix8 a with ha | ⟨i, hi, rfl⟩
          · exact ⟨0, Or.inl rfl, fun post hp => da_X8 (da_xReg0 ha (br_t rfl hp)),
              fun post _ _ _ _ _ _ _ _ hp => br_f n0 (br_t l10 (br_t p4 (br_t p7 (br_t rfl (da_yReg0 ha (br_t rfl hp))))))⟩
          · by_cases b1 : b < 1
            · exact ⟨0, Or.inl rfl, fun post hp => da_X8 (da_xReg1 hi (br_f da_n10 (br_t b1 hp))),
                fun post _ _ _ _ _ _ _ _ hp => br_f n0 (br_t l10 (br_t p4 (br_t p7 (br_t rfl (da_yReg1 hi (br_f da_n10 (br_t b1 hp)))))))⟩
            · by_cases b8 : 8 < b
              · exact ⟨0, Or.inl rfl, fun post hp => da_X8 (da_xReg1 hi (br_f da_n10 (br_f b1 (br_t b8 hp)))),
                  fun post _ _ _ _ _ _ _ _ hp => br_f n0 (br_t l10 (br_t p4 (br_t p7 (br_t rfl (da_yReg1 hi (br_f da_n10 (br_f b1 (br_t b8 hp))))))))⟩
              · obtain ⟨j, hj, rfl⟩ := nI_of (x := b) (fun h => b1 (Int32.lt_trans h (by decide)))
                have j1 : 1 ≤ j := by
                  by_cases c : 1 ≤ j
                  · exact c
                  · exact absurd (nI_lt (a := j) (b := 1) (by omega) (by decide)) b1
                have j8 : j ≤ 8 := by
                  by_cases c : j ≤ 8
                  · exact c
                  · exact absurd (nI_lt (a := 8) (b := j) (by omega) hj) b8
                exact ⟨1, Or.inr ⟨rfl, Or.inr (Or.inr (Or.inl ⟨i, j, hi, j1, j8, rfl, rfl, rfl⟩))⟩, fun post hp => da_X8 (da_xReg1 hi (br_f da_n10 (br_f b1 (br_f b8 hp)))),
                  fun post _ _ _ _ _ _ _ _ hp => br_f n0 (br_t l10 (br_t p4 (br_t p7 (br_t rfl (da_yReg1 hi (br_f da_n10 (br_f b1 (br_f b8 hp))))))))⟩
        · by_cases k9 : k = 9
          · subst k9
            by_cases a1 : a < 1
            · exact ⟨0, Or.inl rfl, fun post hp => da_X9 (br_t a1 hp),
                fun post _ _ _ _ _ _ _ _ hp => br_f n0 (br_t l10 (br_t p4 (br_t p7 (br_f (by decide) (br_f (by decide) (br_t a1 hp))))))⟩
            · by_cases a6 : 6 < a
              · exact ⟨0, Or.inl rfl, fun post hp => da_X9 (br_f a1 (br_t a6 hp)),
                  fun post _ _ _ _ _ _ _ _ hp => br_f n0 (br_t l10 (br_t p4 (br_t p7 (br_f (by decide) (br_f (by decide) (br_f a1 (br_t a6 hp)))))))⟩
              · obtain ⟨j, hj, rfl⟩ := nI_of (x := a) (fun h => a1 (Int32.lt_trans h (by decide)))
                have j1 : 1 ≤ j := by
                  by_cases c : 1 ≤ j
                  · exact c
                  · exact absurd (nI_lt (a := j) (b := 1) (by omega) (by decide)) a1
                have j6 : j ≤ 6 := by
                  by_cases c : j ≤ 6
                  · exact c
                  · exact absurd (nI_lt (a := 6) (b := j) (by omega) hj) a6
                exact ⟨1, Or.inr ⟨rfl, Or.inr (Or.inr (Or.inr (Or.inl ⟨j, j1, j6, rfl, rfl⟩)))⟩, fun post hp => da_X9 (br_f a1 (br_f a6 hp)),
                  fun post _ _ _ _ _ _ _ _ hp => br_f n0 (br_t l10 (br_t p4 (br_t p7 (br_f (by decide) (br_f (by decide) (br_f a1 (br_f a6 hp)))))))⟩
          · have e : k = 10 := by omega
            subst e
            exact ⟨1, Or.inr ⟨rfl, Or.inr (Or.inr (Or.inr (Or.inr rfl)))⟩, fun post hp => da_X10 hp,
              fun post _ _ _ _ _ _ _ _ hp => br_f n0 (br_t l10 (br_t p4 (br_t p7 (br_f (by decide) (br_t rfl hp)))))⟩

theorem da_ok_put {op x y z : Nat → Int32} {n : Nat} {o a b c : Int32} (h : ∀ i, i < n → da_ok op x y z i) (hv : da_okv o a b c) :
    ∀ i, i < n + 1 → da_ok (upd op n o) (upd x n a) (upd y n b) (upd z n c) i := by
  intro i hi
  by_cases e : i = n
  · unfold da_ok
    rw [e, pk_us, pk_us, pk_us, pk_us]; exact hv
  · unfold da_ok
    rw [pk_un e, pk_un e, pk_un e, pk_un e]; exact h i (by omega)

theorem i_vc_emit {k : Nat} {u : SX} {v : SY} (I : i_Rel k u v) (hk : k + 5 ≤ 2562) (v1 : Int32) (v2 : Int32) (v3 : Int32) (v4 : Int32) : wpX_emit (fun r u' => wpY_emit (fun r' v' => r' = r ∧ i_Rel (k + 5) u' v') v v1 v2 v3 v4) u v1 v2 v3 v4 := by
  obtain ⟨dq, lt, n, rs, bu, cy, ex, oh, oc, sh, sc, op, x, y, z, rg, ce, ar, ps, on, ls, pl, ov, oa, sl, lf, h1, h2, h3, h4, h5, h6, rfl, rfl⟩ := I
  by_cases c : n = 24
  · subst c
    exact br_f (by decide) (br_t rfl ⟨rfl, da_Rel _ h1 h2 h3 h4 h5 h6⟩)
  · have c1 : nI n < 24 := nI_lt (b := 24) (by omega) (by decide)
    have c2 : ¬ nI n = 24 := fun e => c ((nI_eq (b := 24) (by omega) (by decide)).mp e)
    have hi : vp_in (nI n) 24 := vp_in_nI (by omega) (by decide)
    obtain ⟨r, hr, hX, hY⟩ := da_ins v1 v2 v3 v4
    refine br_t c1 (hX _ ?_)
    rcases hr with rfl | ⟨rfl, hv⟩
    · exact br_t rfl (br_f c2 (hY _ _ _ _ _ _ _ _ _ (br_t rfl ⟨rfl, da_Rel _ h1 h2 h3 h4 h5 h6⟩)))
    · have hn : (nI n).toNatClampNeg = n := nI_clamp (by omega)
      refine br_f da_n10 ⟨hi, nm_r (congrArg (fun t => upd op t v1) hn) ⟨hi, nm_r (congrArg (fun t => upd x t v2) hn) ⟨hi, nm_r (congrArg (fun t => upd y t v3) hn) ⟨hi, nm_r (congrArg (fun t => upd z t v4) hn) (nm_r (nI_1 n) ?_)⟩⟩⟩⟩
      refine br_f c2 (hY _ _ _ _ _ _ _ _ _ (br_f da_n10 ⟨hi, nm_r (congrArg (fun t => upd op t v1) hn) ⟨hi, nm_r (congrArg (fun t => upd x t v2) hn) ⟨hi, nm_r (congrArg (fun t => upd y t v3) hn) ⟨hi, nm_r (congrArg (fun t => upd z t v4) hn) (nm_r (nI_1 n) ?_)⟩⟩⟩⟩))
      exact ⟨rfl, da_Rel _ h1 h2 h3 h4 (by omega) (da_ok_put h6 hv)⟩
theorem i_vc_retract {k : Nat} {u : SX} {v : SY} (I : i_Rel k u v) (hk : k + 5 ≤ 2562) : wpX_retract (fun r u' => wpY_retract (fun r' v' => r' = r ∧ i_Rel (k + 5) u' v') v) u := by
  obtain ⟨dq, lt, n, rs, bu, cy, ex, oh, oc, sh, sc, op, x, y, z, rg, ce, ar, ps, on, ls, pl, ov, oa, sl, lf, h1, h2, h3, h4, h5, h6, rfl, rfl⟩ := I
  cases n with
  | zero => exact br_t rfl (br_t rfl ⟨rfl, da_Rel _ h1 h2 h3 h4 h5 h6⟩)
  | succ n =>
    have c : ¬ nI (n + 1) = 0 := nI_ne0 (by omega) (by omega)
    exact br_f c (nm_r (nI_pred n) (br_f c (nm_r (nI_pred n) ⟨rfl, da_Rel _ h1 h2 h3 h4 (by omega) (fun i hi => h6 i (by omega))⟩)))
theorem i_vc_setRegister {k : Nat} {u : SX} {v : SY} (I : i_Rel k u v) (hk : k + 5 ≤ 2562) (v1 : Int32) (v2 : Int32) : wpX_setRegister (fun r u' => wpY_setRegister (fun r' v' => r' = r ∧ i_Rel (k + 5) u' v') v v1 v2) u v1 v2 := by
  obtain ⟨dq, lt, n, rs, bu, cy, ex, oh, oc, sh, sc, op, x, y, z, rg, ce, ar, ps, on, ls, pl, ov, oa, sl, lf, h1, h2, h3, h4, h5, h6, rfl, rfl⟩ := I
  unfold wpX_setRegister wpY_setRegister
  dsimp only
  rcases da_ix8 v1 with h | ⟨j, hj, rfl⟩
  · exact da_xReg0 h (br_t rfl (da_yReg0 h (br_t rfl ⟨rfl, da_Rel _ h1 h2 h3 h4 h5 h6⟩)))
  · have hi : vp_in (nI j) 8 := vp_in_nI hj (by decide)
    exact da_xReg1 hj (br_f da_n10 ⟨hi, nm_e (da_yReg1 hj (br_f da_n10 ⟨hi, nm_e ⟨rfl, da_Rel _ h1 h2 h3 h4 h5 h6⟩⟩))⟩)
theorem da_xCell1 {post : Int32 → Prop} {j : Nat} (hj : j < 16) (hp : post 1) : wpX_isCell post (nI j) :=
  br_f (nI_pos (by omega)) (br_f (nI_ge (b := 16) hj (by decide)) hp)
theorem da_xCell0 {post : Int32 → Prop} {v : Int32} (h : v < 0 ∨ nI 16 ≤ v) (hp : post 0) : wpX_isCell post v := by
  by_cases c : v < 0
  · exact br_t c hp
  · exact br_f c (br_t (h.resolve_left c) hp)
theorem da_ix16 (v : Int32) : (v < 0 ∨ nI 16 ≤ v) ∨ ∃ j : Nat, j < 16 ∧ v = nI j := by
  rcases pk_ix v (n := 16) (by decide) with h | h | h
  · exact Or.inl (Or.inl h)
  · exact Or.inl (Or.inr h)
  · exact Or.inr h
theorem i_vc_setMemory {k : Nat} {u : SX} {v : SY} (I : i_Rel k u v) (hk : k + 5 ≤ 2562) (v1 : Int32) (v2 : Int32) : wpX_setMemory (fun r u' => wpY_setMemory (fun r' v' => r' = r ∧ i_Rel (k + 5) u' v') v v1 v2) u v1 v2 := by
  obtain ⟨dq, lt, n, rs, bu, cy, ex, oh, oc, sh, sc, op, x, y, z, rg, ce, ar, ps, on, ls, pl, ov, oa, sl, lf, h1, h2, h3, h4, h5, h6, rfl, rfl⟩ := I
  unfold wpX_setMemory wpY_setMemory
  dsimp only
  rcases da_ix16 v1 with h | ⟨j, hj, rfl⟩
  · refine da_xCell0 h (br_t rfl ?_)
    by_cases c : v1 < 0
    · exact br_t c ⟨rfl, da_Rel _ h1 h2 h3 h4 h5 h6⟩
    · have h16 : (16 : Int32) ≤ v1 := h.resolve_left c
      exact br_f c (br_f (Int32.not_le.mpr (Int32.lt_of_lt_of_le (by decide) h16)) ⟨rfl, da_Rel _ h1 h2 h3 h4 h5 h6⟩)
  · have hi : vp_in (nI j) 16 := vp_in_nI hj (by decide)
    exact da_xCell1 hj (br_f da_n10 ⟨hi, nm_e (br_f (nI_pos (by omega)) (br_t (nI_le (b := 15) (by omega) (by decide)) ⟨hi, nm_e ⟨rfl, da_Rel _ h1 h2 h3 h4 h5 h6⟩⟩))⟩)
theorem i_vc_register {k : Nat} {u : SX} {v : SY} (I : i_Rel k u v) (hk : k + 5 ≤ 2562) (v1 : Int32) : wpX_register (fun r => wpY_register (fun r' => r' = r ∧ i_Rel (k + 5) u v) v v1) u v1 := by
  obtain ⟨dq, lt, n, rs, bu, cy, ex, oh, oc, sh, sc, op, x, y, z, rg, ce, ar, ps, on, ls, pl, ov, oa, sl, lf, h1, h2, h3, h4, h5, h6, rfl, rfl⟩ := I
  unfold wpX_register wpY_register
  dsimp only
  rcases da_ix8 v1 with h | ⟨j, hj, rfl⟩
  · exact da_xReg0 h (br_t rfl (da_yReg0 h (br_t rfl ⟨rfl, da_Rel _ h1 h2 h3 h4 h5 h6⟩)))
  · have hi : vp_in (nI j) 8 := vp_in_nI hj (by decide)
    exact da_xReg1 hj (br_f da_n10 ⟨hi, da_yReg1 hj (br_f da_n10 ⟨hi, rfl, da_Rel _ h1 h2 h3 h4 h5 h6⟩)⟩)
theorem i_vc_memory {k : Nat} {u : SX} {v : SY} (I : i_Rel k u v) (hk : k + 5 ≤ 2562) (v1 : Int32) : wpX_memory (fun r => wpY_memory (fun r' => r' = r ∧ i_Rel (k + 5) u v) v v1) u v1 := by
  obtain ⟨dq, lt, n, rs, bu, cy, ex, oh, oc, sh, sc, op, x, y, z, rg, ce, ar, ps, on, ls, pl, ov, oa, sl, lf, h1, h2, h3, h4, h5, h6, rfl, rfl⟩ := I
  unfold wpX_memory wpY_memory
  dsimp only
  rcases da_ix16 v1 with h | ⟨j, hj, rfl⟩
  · refine da_xCell0 h (br_t rfl ?_)
    by_cases c : v1 < 0
    · exact br_t c ⟨rfl, da_Rel _ h1 h2 h3 h4 h5 h6⟩
    · have h16 : (16 : Int32) ≤ v1 := h.resolve_left c
      exact br_f c (br_t (Int32.lt_of_lt_of_le (by decide) h16) ⟨rfl, da_Rel _ h1 h2 h3 h4 h5 h6⟩)
  · have hi : vp_in (nI j) 16 := vp_in_nI hj (by decide)
    exact da_xCell1 hj (br_f da_n10 ⟨hi, br_f (nI_pos (by omega)) (br_f (nI_nlt (a := 15) (by omega) (by decide)) ⟨hi, rfl, da_Rel _ h1 h2 h3 h4 h5 h6⟩)⟩)

/- clear -/
def da_zs : Nat → Nat → (Nat → Int32) → (Nat → Int32)
  | 0, _, g => g
  | d + 1, i, g => da_zs d (i + 1) (upd g i 0)
theorem da_xcl2 {post : SX → Prop} {qd ll ln rs bu cy ex oh oc sh sc : Int32} {op x y z rg ar ps on ls pl ov oa sl : Nat → Int32} : ∀ (d i : Nat) (g : Nat → Int32), i + d = 16 → post (qd, ll, ln, rs, bu, cy, ex, oh, oc, sh, sc, op, x, y, z, rg, (da_zs d i g), ar, ps, on, ls, pl, ov, oa, sl) →
    wX_clear_28 post qd ll ln rs bu cy ex oh oc sh sc (d + 1) (nI i) op x y z rg g ar ps on ls pl ov oa sl := by
  intro d
  induction d with
  | zero => intro i g h hp; exact br_t (nI_le (a := 16) (by omega) (by omega)) hp
  | succ d ih =>
    intro i g h hp
    exact br_f (nI_ge (b := 16) (by omega) (by decide)) ⟨vp_in_nI (by omega) (by decide), nm_r (congrArg (fun t => upd g t 0) (nI_clamp (n := i) (by omega))) (nm_r (nI_1 i) (ih (i + 1) _ (by omega) hp))⟩
theorem da_xcl1 {post : SX → Prop} {qd ll ln rs bu cy ex oh oc sh sc : Int32} {op x y z ce ar ps on ls pl ov oa sl : Nat → Int32} : ∀ (d i : Nat) (g : Nat → Int32), i + d = 8 → post (qd, ll, ln, rs, bu, cy, ex, oh, oc, sh, sc, op, x, y, z, (da_zs d i g), (da_zs 16 0 ce), ar, ps, on, ls, pl, ov, oa, sl) →
    wX_clear_7 post qd ll ln rs bu cy ex oh oc sh sc (d + 1) (nI i) op x y z g ce ar ps on ls pl ov oa sl := by
  intro d
  induction d with
  | zero => intro i g h hp; exact br_t (nI_le (a := 8) (by omega) (by omega)) ⟨_, da_xcl2 16 0 ce rfl hp⟩
  | succ d ih =>
    intro i g h hp
    exact br_f (nI_ge (b := 8) (by omega) (by decide)) ⟨vp_in_nI (by omega) (by decide), nm_r (congrArg (fun t => upd g t 0) (nI_clamp (n := i) (by omega))) (nm_r (nI_1 i) (ih (i + 1) _ (by omega) hp))⟩
theorem da_ycl2 {post : SY → Prop} {yn : Int32} {op x y z rg lf : Nat → Int32} : ∀ (d i : Nat) (g : Nat → Int32), i + d = 16 → post (yn, op, x, y, z, rg, (da_zs d i g), lf) →
    wY_clear_28 post yn (d + 1) (nI i) op x y z rg g lf := by
  intro d
  induction d with
  | zero => intro i g h hp; exact br_t (nI_le (a := 16) (by omega) (by omega)) hp
  | succ d ih =>
    intro i g h hp
    exact br_f (nI_ge (b := 16) (by omega) (by decide)) ⟨vp_in_nI (by omega) (by decide), nm_r (congrArg (fun t => upd g t 0) (nI_clamp (n := i) (by omega))) (nm_r (nI_1 i) (ih (i + 1) _ (by omega) hp))⟩
theorem da_ycl1 {post : SY → Prop} {yn : Int32} {op x y z ce lf : Nat → Int32} : ∀ (d i : Nat) (g : Nat → Int32), i + d = 8 → post (yn, op, x, y, z, (da_zs d i g), (da_zs 16 0 ce), lf) →
    wY_clear_7 post yn (d + 1) (nI i) op x y z g ce lf := by
  intro d
  induction d with
  | zero => intro i g h hp; exact br_t (nI_le (a := 8) (by omega) (by omega)) ⟨_, da_ycl2 16 0 ce rfl hp⟩
  | succ d ih =>
    intro i g h hp
    exact br_f (nI_ge (b := 8) (by omega) (by decide)) ⟨vp_in_nI (by omega) (by decide), nm_r (congrArg (fun t => upd g t 0) (nI_clamp (n := i) (by omega))) (nm_r (nI_1 i) (ih (i + 1) _ (by omega) hp))⟩
theorem i_vc_clear {k : Nat} {u : SX} {v : SY} (I : i_Rel k u v) (hk : k + 5 ≤ 2562) : wpX_clear (fun u' => wpY_clear (fun v' => i_Rel (k + 5) u' v') v) u := by
  obtain ⟨dq, lt, n, rs, bu, cy, ex, oh, oc, sh, sc, op, x, y, z, rg, ce, ar, ps, on, ls, pl, ov, oa, sl, lf, h1, h2, h3, h4, h5, h6, rfl, rfl⟩ := I
  exact ⟨_, da_xcl1 8 0 rg rfl ⟨_, da_ycl1 8 0 rg rfl (da_Rel _ (n := 0) h1 h2 h3 h4 (Nat.zero_le _) (fun i hi => absurd hi (Nat.not_lt_zero i)))⟩⟩
end
section
/-! addressSide, both walks -/
theorem da_ok_r {op x y z : Nat → Int32} {i : Nat} (h : da_ok op x y z i) :
    (op i ≤ 8 → ∃ a : Nat, a < 8 ∧ x i = nI a) ∧ (op i ≤ 7 → ∃ b : Nat, b < 8 ∧ y i = nI b) ∧ (op i ≤ 4 → ∃ c : Nat, c < 8 ∧ z i = nI c) := by
  rcases h with ⟨k, a, b, c, hk, ha, hb, hc, ho, hx, hy, hz⟩ | ⟨k, a, b, hk, hk', ha, hb, ho, hx, hy⟩ | ⟨a, b, ha, hb, hb', ho, hx, hy⟩ | ⟨a, h1, h2, ho, hx⟩ | ho
  · exact ⟨fun _ => ⟨a, ha, hx⟩, fun _ => ⟨b, hb, hy⟩, fun _ => ⟨c, hc, hz⟩⟩
  · refine ⟨fun _ => ⟨a, ha, hx⟩, fun _ => ⟨b, hb, hy⟩, fun h4 => ?_⟩
    rw [ho] at h4
    exact absurd ((nI_leI (b := 4) (by omega) (by omega)).mp h4) (by omega)
  · refine ⟨fun _ => ⟨a, ha, hx⟩, fun h4 => ?_, fun h4 => ?_⟩
    · rw [ho] at h4; exact absurd h4 (by decide)
    · rw [ho] at h4; exact absurd h4 (by decide)
  · refine ⟨fun h4 => ?_, fun h4 => ?_, fun h4 => ?_⟩
    · rw [ho] at h4; exact absurd h4 (by decide)
    · rw [ho] at h4; exact absurd h4 (by decide)
    · rw [ho] at h4; exact absurd h4 (by decide)
  · refine ⟨fun h4 => ?_, fun h4 => ?_, fun h4 => ?_⟩
    · rw [ho] at h4; exact absurd h4 (by decide)
    · rw [ho] at h4; exact absurd h4 (by decide)
    · rw [ho] at h4; exact absurd h4 (by decide)
theorem da_sh2 {v : Int32} (h : ∃ b : Nat, b < 8 ∧ v = nI b) : (1 : Int32) <<< (v &&& 31) = nI (2 ^ v.toNatClampNeg) := by
  obtain ⟨b, hb, rfl⟩ := h
  rw [nI_clamp (by omega), da_sh1 b hb]
theorem da_bt0 {m : Nat} {v : Int32} (hm : m < 256) (h : ∃ b : Nat, b < 8 ∧ v = nI b) (ht : m.testBit v.toNatClampNeg = false) : ((nI m >>> (v &&& 31)) &&& 1) = 0 := by
  obtain ⟨b, hb, rfl⟩ := h
  rw [nI_clamp (by omega)] at ht
  rw [da_bit m hm b hb, ht]; rfl
theorem da_bt1 {m : Nat} {v : Int32} (hm : m < 256) (h : ∃ b : Nat, b < 8 ∧ v = nI b) (ht : m.testBit v.toNatClampNeg = true) : ((nI m >>> (v &&& 31)) &&& 1) = 1 := by
  obtain ⟨b, hb, rfl⟩ := h
  rw [nI_clamp (by omega)] at ht
  rw [da_bit m hm b hb, ht]; rfl
theorem da_xin0 {post : Int32 → Prop} {m : Nat} {v : Int32} (hm : m < 256) (h : ∃ b : Nat, b < 8 ∧ v = nI b) (ht : m.testBit v.toNatClampNeg = false) (hp : post 0) : wpX_isInSet post (nI m) v :=
  br_t (da_bt0 hm h ht) hp
theorem da_xin1 {post : Int32 → Prop} {m : Nat} {v : Int32} (hm : m < 256) (h : ∃ b : Nat, b < 8 ∧ v = nI b) (ht : m.testBit v.toNatClampNeg = true) (hp : post 1) : wpX_isInSet post (nI m) v :=
  br_f (by rw [da_bt1 hm h ht]; decide) hp
theorem da_xam {post : Int32 → Prop} {qd ll ln rs bu cy ex oh oc sh sc : Int32} {op x y z rg ce ar ps on ls pl ov oa sl : Nat → Int32} {i : Nat} (hi : i < 24) (h : da_ok op x y z i) (hp : post (nI (da_am op x y i))) : wpX_addressRegisterOf post (qd, ll, ln, rs, bu, cy, ex, oh, oc, sh, sc, op, x, y, z, rg, ce, ar, ps, on, ls, pl, ov, oa, sl) (nI i) := by
  have e : (nI i).toNatClampNeg = i := nI_clamp (by omega)
  have v : vp_in (nI i) 24 := vp_in_nI hi (by decide)
  obtain ⟨r1, r2, r3⟩ := da_ok_r h
  simp only [wpX_addressRegisterOf, e]
  unfold da_am at hp
  by_cases h6 : op i = 6
  · rw [if_pos (Or.inl h6), ← da_sh2 (r2 (by rw [h6]; decide))] at hp
    exact ⟨v, br_t h6 ⟨v, hp⟩⟩
  · by_cases h7 : op i = 7
    · rw [if_pos (Or.inr h7), ← da_sh2 (r2 (by rw [h7]; decide))] at hp
      exact ⟨v, br_f h6 ⟨v, br_t h7 ⟨v, hp⟩⟩⟩
    · rw [if_neg (fun c => c.elim h6 h7)] at hp
      by_cases h8 : op i = 8
      · rw [if_pos h8, ← da_sh2 (r1 (by rw [h8]; decide))] at hp
        exact ⟨v, br_f h6 ⟨v, br_f h7 ⟨v, br_t h8 ⟨v, hp⟩⟩⟩⟩
      · rw [if_neg h8] at hp
        exact ⟨v, br_f h6 ⟨v, br_f h7 ⟨v, br_f h8 hp⟩⟩⟩
theorem da_xso {post : Int32 → Prop} {qd ll ln rs bu cy ex oh oc sh sc : Int32} {op x y z rg ce ar ps on ls pl ov oa sl : Nat → Int32} {i : Nat} (hi : i < 24) (h : da_ok op x y z i) (h6 : op i ≤ 6) (hp : post (nI (da_so op y z i))) : wpX_sourcesOf post (qd, ll, ln, rs, bu, cy, ex, oh, oc, sh, sc, op, x, y, z, rg, ce, ar, ps, on, ls, pl, ov, oa, sl) (nI i) := by
  have e : (nI i).toNatClampNeg = i := nI_clamp (by omega)
  have v : vp_in (nI i) 24 := vp_in_nI hi (by decide)
  obtain ⟨r1, r2, r3⟩ := da_ok_r h
  simp only [wpX_sourcesOf, e]
  unfold da_so at hp
  refine ⟨v, nm_r (da_sh2 (r2 (da_67 h6))) ⟨v, ?_⟩⟩
  by_cases h4 : op i ≤ 4
  · rw [if_pos h4, ← da_orN, ← da_sh2 (r3 h4)] at hp
    exact br_f (Int32.not_lt.mpr h4) ⟨v, hp⟩
  · rw [if_neg h4] at hp
    exact br_t (Int32.not_le.mp h4) hp

theorem da_xht1 {post : Int32 → Prop} {qd ll ln rs bu cy ex oh oc sh sc : Int32} {op x y z rg ce ar ps on ls pl ov oa sl : Nat → Int32} {i : Nat} (hi : i < 24) (h6 : op i ≤ 6) (hp : post 1) : wpX_hasTarget post (qd, ll, ln, rs, bu, cy, ex, oh, oc, sh, sc, op, x, y, z, rg, ce, ar, ps, on, ls, pl, ov, oa, sl) (nI i) := by
  have e : (nI i).toNatClampNeg = i := nI_clamp (by omega)
  simp only [wpX_hasTarget, e]
  exact ⟨vp_in_nI hi (by decide), br_f (Int32.not_lt.mpr h6) hp⟩
theorem da_xht0 {post : Int32 → Prop} {qd ll ln rs bu cy ex oh oc sh sc : Int32} {op x y z rg ce ar ps on ls pl ov oa sl : Nat → Int32} {i : Nat} (hi : i < 24) (h6 : ¬ op i ≤ 6) (hp : post 0) : wpX_hasTarget post (qd, ll, ln, rs, bu, cy, ex, oh, oc, sh, sc, op, x, y, z, rg, ce, ar, ps, on, ls, pl, ov, oa, sl) (nI i) := by
  have e : (nI i).toNatClampNeg = i := nI_clamp (by omega)
  simp only [wpX_hasTarget, e]
  exact ⟨vp_in_nI hi (by decide), br_t (Int32.not_le.mp h6) hp⟩
theorem da_xa36 {post : Int32 → Prop} {J : Int32 → Int32 → Prop} {qd ll rs bu cy ex oh oc sh sc : Int32} {op x y z rg ce ar ps on ls pl ov oa sl : Nat → Int32} {n t m : Nat} (hn : n ≤ 24) (hok : ∀ i, i < n → da_ok op x y z i) (hm : m < 256)
    (hp : J (nI (da_fd (da_xr op x y z) n m)) (nI (t + 1))) : ∀ d i : Nat, i + d = n →
    wX_addressSide_36 post J (nI t) qd ll (nI n) rs bu cy ex oh oc sh sc op x y z rg ce ar ps on ls pl ov oa sl (d + 1) (nI (da_fd (da_xr op x y z) i m)) (nI i) := by
  intro d
  induction d with
  | zero =>
    intro i h
    have e : i = n := by omega
    subst e
    exact br_t (nI_le (Nat.le_refl _) (by omega)) (nm_r (nI_1 t) hp)
  | succ d ih =>
    intro i h
    have hi : i < 24 := by omega
    have hin : i < n := by omega
    have e : (nI i).toNatClampNeg = i := nI_clamp (by omega)
    have v : vp_in (nI i) 24 := vp_in_nI hi (by decide)
    have h1 := ih (i + 1) (by omega)
    have hm' : da_fd (da_xr op x y z) i m < 256 := da_fd_256 _ n (da_xr_b op x y z (da_ok_B op x y z hok)) m hm i (by omega)
    have hs : da_fd (da_xr op x y z) (i + 1) m = da_xr op x y z i (da_fd (da_xr op x y z) i m) := rfl
    rw [hs] at h1
    generalize da_fd (da_xr op x y z) i m = w at h1 hm' ⊢
    obtain ⟨r1, r2, r3⟩ := da_ok_r (hok i hin)
    unfold da_xr at h1
    refine br_f (nI_ge hin (by omega)) ?_
    by_cases h6 : op i ≤ 6
    · refine da_xht1 hi h6 (br_f da_n10 ⟨v, ?_⟩)
      rw [e]
      have hx := r1 (Int32.le_trans h6 (by decide))
      by_cases hb : w.testBit (x i).toNatClampNeg = true
      · rw [if_pos ⟨h6, hb⟩] at h1
        refine da_xin1 hm' hx hb (br_f da_n10 (da_xso hi (hok i hin) h6 ?_))
        exact nm_r (da_orN _ _) (nm_r (nI_1 i) h1)
      · rw [if_neg (fun c => hb c.2)] at h1
        exact da_xin0 hm' hx (Bool.eq_false_iff.mpr hb) (br_t rfl (nm_r (nI_1 i) h1))
    · rw [if_neg (fun c => h6 c.1)] at h1
      exact da_xht0 hi h6 (br_t rfl (nm_r (nI_1 i) h1))
theorem da_xa28 {post : Int32 → Prop} {qd ll rs bu cy ex oh oc sh sc : Int32} {op x y z rg ce ar ps on ls pl ov oa sl : Nat → Int32} {n m : Nat} (hn : n ≤ 24) (hok : ∀ i, i < n → da_ok op x y z i) (hm : m < 256)
    (hp : post (nI (da_it (da_fd (da_xr op x y z) n) 8 m))) : ∀ d t : Nat, t + d = 8 →
    wX_addressSide_28 post qd ll (nI n) rs bu cy ex oh oc sh sc op x y z rg ce ar ps on ls pl ov oa sl (d + 1) (nI (da_it (da_fd (da_xr op x y z) n) t m)) (nI t) := by
  intro d
  induction d with
  | zero =>
    intro t h
    have e : t = 8 := by omega
    subst e
    exact br_t (by decide) hp
  | succ d ih =>
    intro t h
    have hm' := (da_fix _ (da_xr_g op x y z (da_ok_B op x y z hok)) m hm t).1
    exact br_f (nI_ge (b := 8) (by omega) (by decide)) ⟨n + 1, da_xa36 hn hok hm' (ih (t + 1) (by omega)) n 0 (by omega)⟩
theorem da_xa4 {post : Int32 → Prop} {qd ll rs bu cy ex oh oc sh sc : Int32} {op x y z rg ce ar ps on ls pl ov oa sl : Nat → Int32} {n : Nat} (hn : n ≤ 24) (hok : ∀ i, i < n → da_ok op x y z i)
    (hp : post (nI (da_X op x y z n))) : ∀ d i : Nat, i + d = n →
    wX_addressSide_4 post qd ll (nI n) rs bu cy ex oh oc sh sc op x y z rg ce ar ps on ls pl ov oa sl (d + 1) (nI (da_fd (da_xs op x y) i 0)) (nI i) := by
  intro d
  induction d with
  | zero =>
    intro i h
    have e : i = n := by omega
    subst e
    exact br_t (nI_le (Nat.le_refl _) (by omega)) ⟨9, da_xa28 hn hok (da_X_b op x y z (da_ok_B op x y z hok)) hp 8 0 (by omega)⟩
  | succ d ih =>
    intro i h
    exact br_f (nI_ge (by omega) (by omega)) (da_xam (by omega) (hok i (by omega)) (nm_r (da_orN _ _) (nm_r (nI_1 i) (ih (i + 1) (by omega)))))
theorem da_xside {post : Int32 → Prop} {qd ll rs bu cy ex oh oc sh sc : Int32} {op x y z rg ce ar ps on ls pl ov oa sl : Nat → Int32} {n : Nat} (hn : n ≤ 24) (hok : ∀ i, i < n → da_ok op x y z i)
    (hp : post (nI (da_X op x y z n))) : wpX_addressSide post (qd, ll, (nI n), rs, bu, cy, ex, oh, oc, sh, sc, op, x, y, z, rg, ce, ar, ps, on, ls, pl, ov, oa, sl) :=
  ⟨n + 1, da_xa4 hn hok hp n 0 (by omega)⟩

theorem da_ya103 {post : Int32 → Prop} {J : Int32 → Int32 → Prop} {yn : Int32} {op x y z rg ce lf : Nat → Int32} {i m : Nat} (hi : i < 24) (h : da_ok op x y z i) (hm : m < 256)
    (hp : J (nI (da_y4 op x z i m)) (nI (i + 1))) : wY_grown_103 post J (nI m) (nI i) yn op x y z rg ce lf := by
  have e : (nI i).toNatClampNeg = i := nI_clamp (by omega)
  have v : vp_in (nI i) 24 := vp_in_nI hi (by decide)
  obtain ⟨r1, r2, r3⟩ := da_ok_r h
  simp only [wY_grown_103, e]
  unfold da_y4 at hp
  by_cases h4 : op i ≤ 4
  · have hx := r1 (Int32.le_trans h4 (by decide))
    refine ⟨v, br_f (Int32.not_lt.mpr h4) ⟨v, ?_⟩⟩
    by_cases hb : m.testBit (x i).toNatClampNeg = true
    · rw [if_pos ⟨h4, hb⟩, ← da_orN, ← da_sh2 (r3 h4)] at hp
      exact br_t (da_bt1 hm hx hb) ⟨v, nm_e (nm_r (nI_1 i) hp)⟩
    · rw [if_neg (fun c => hb c.2)] at hp
      exact br_f (by rw [da_bt0 hm hx (Bool.eq_false_iff.mpr hb)]; decide) (nm_r (nI_1 i) hp)
  · rw [if_neg (fun c => h4 c.1)] at hp
    exact ⟨v, br_t (Int32.not_le.mp h4) (nm_r (nI_1 i) hp)⟩
theorem da_ya67 {post : Int32 → Prop} {J : Int32 → Int32 → Prop} {yn : Int32} {op x y z rg ce lf : Nat → Int32} {i m : Nat} (hi : i < 24) (h : da_ok op x y z i) (hm : m < 256)
    (hp : wY_grown_103 post J (nI (da_y3 op x y i m)) (nI i) yn op x y z rg ce lf) : wY_grown_67 post J (nI m) (nI i) yn op x y z rg ce lf := by
  have e : (nI i).toNatClampNeg = i := nI_clamp (by omega)
  have v : vp_in (nI i) 24 := vp_in_nI hi (by decide)
  obtain ⟨r1, r2, r3⟩ := da_ok_r h
  simp only [wY_grown_67, e]
  unfold da_y3 at hp
  by_cases h4 : op i ≤ 6
  · have hx := r1 (Int32.le_trans h4 (by decide))
    refine ⟨v, br_f (Int32.not_lt.mpr h4) ⟨v, ?_⟩⟩
    by_cases hb : m.testBit (x i).toNatClampNeg = true
    · rw [if_pos ⟨h4, hb⟩, ← da_orN, ← da_sh2 (r2 (da_67 h4))] at hp
      exact br_t (da_bt1 hm hx hb) ⟨v, nm_e hp⟩
    · rw [if_neg (fun c => hb c.2)] at hp
      exact br_f (by rw [da_bt0 hm hx (Bool.eq_false_iff.mpr hb)]; decide) hp
  · rw [if_neg (fun c => h4 c.1)] at hp
    exact ⟨v, br_t (Int32.not_le.mp h4) hp⟩
theorem da_ya45 {post : Int32 → Prop} {J : Int32 → Int32 → Prop} {yn : Int32} {op x y z rg ce lf : Nat → Int32} {i m : Nat} (hi : i < 24) (h : da_ok op x y z i)
    (hp : wY_grown_67 post J (nI (da_y2 op x i m)) (nI i) yn op x y z rg ce lf) : wY_grown_45 post J (nI m) (nI i) yn op x y z rg ce lf := by
  have e : (nI i).toNatClampNeg = i := nI_clamp (by omega)
  have v : vp_in (nI i) 24 := vp_in_nI hi (by decide)
  obtain ⟨r1, r2, r3⟩ := da_ok_r h
  simp only [wY_grown_45, e]
  unfold da_y2 at hp
  by_cases h8 : op i = 8
  · rw [if_pos h8, ← da_orN, ← da_sh2 (r1 (by rw [h8]; decide))] at hp
    exact ⟨v, br_t h8 ⟨v, nm_e hp⟩⟩
  · rw [if_neg h8] at hp
    exact ⟨v, br_f h8 hp⟩
theorem da_ya4 {post : Int32 → Prop} {op x y z rg ce lf : Nat → Int32} {n m : Nat} (hn : n ≤ 24) (hok : ∀ i, i < n → da_ok op x y z i) (hm : m < 256)
    (hp : post (nI (da_fd (da_yg op x y z) n m))) : ∀ d i : Nat, i + d = n →
    wY_grown_4 post (nI n) op x y z rg ce lf (d + 1) (nI (da_fd (da_yg op x y z) i m)) (nI i) := by
  intro d
  induction d with
  | zero =>
    intro i h
    have e : i = n := by omega
    subst e
    exact br_t (nI_le (Nat.le_refl _) (by omega)) hp
  | succ d ih =>
    intro i h
    have hi : i < 24 := by omega
    have hin : i < n := by omega
    have e : (nI i).toNatClampNeg = i := nI_clamp (by omega)
    have v : vp_in (nI i) 24 := vp_in_nI hi (by decide)
    have h1 := ih (i + 1) (by omega)
    have B := da_ok_B op x y z hok
    have hm' : da_fd (da_yg op x y z) i m < 256 := da_fd_256 _ n (fun i m hi h => (da_yg_b op x y z B i m hi h).2.2.2) m hm i (by omega)
    have hs : da_fd (da_yg op x y z) (i + 1) m = da_yg op x y z i (da_fd (da_yg op x y z) i m) := rfl
    rw [hs] at h1
    generalize da_fd (da_yg op x y z) i m = w at h1 hm' ⊢
    obtain ⟨b1, b2, b3, b4⟩ := da_yg_b op x y z B i w hin hm'
    obtain ⟨r1, r2, r3⟩ := da_ok_r (hok i hin)
    have h45 := da_ya45 (post := post) (rg := rg) (ce := ce) (lf := lf) (yn := nI n) hi (hok i hin) (da_ya67 hi (hok i hin) b2 (da_ya103 hi (hok i hin) b3 h1))
    unfold da_y1 at h45
    refine br_f (nI_ge hin (by omega)) ?_
    simp only [e]
    by_cases h6 : op i = 6
    · rw [if_pos (Or.inl h6), ← da_orN, ← da_sh2 (r2 (by rw [h6]; decide))] at h45
      refine ⟨v, br_t h6 ?_⟩
      simp only [wY_grown_34, e]
      exact ⟨v, nm_e h45⟩
    · by_cases h7 : op i = 7
      · rw [if_pos (Or.inr h7), ← da_orN, ← da_sh2 (r2 (by rw [h7]; decide))] at h45
        refine ⟨v, br_f h6 ⟨v, br_t h7 ?_⟩⟩
        simp only [wY_grown_34, e]
        exact ⟨v, nm_e h45⟩
      · rw [if_neg (fun c => c.elim h6 h7)] at h45
        exact ⟨v, br_f h6 ⟨v, br_f h7 h45⟩⟩
theorem da_ya9 {post : Int32 → Prop} {op x y z rg ce lf : Nat → Int32} {n : Nat} (hn : n ≤ 24) (hok : ∀ i, i < n → da_ok op x y z i)
    (hp : post (nI (da_Y op x y z n))) : ∀ d t : Nat, t + d = 9 →
    wY_addressSide_4 post (nI n) op x y z rg ce lf (d + 1) (nI (da_it (da_fd (da_yg op x y z) n) t 0)) (nI t) := by
  intro d
  induction d with
  | zero =>
    intro t h
    have e : t = 9 := by omega
    subst e
    exact br_t (by decide) hp
  | succ d ih =>
    intro t h
    have hm' := (da_fix _ (da_yg_g op x y z (da_ok_B op x y z hok)) 0 (by decide) t).1
    exact br_f (nI_ge (b := 9) (by omega) (by decide)) ⟨n + 1, da_ya4 hn hok hm' (nm_r (nI_1 t) (ih (t + 1) (by omega))) n 0 (by omega)⟩
theorem da_yside {post : Int32 → Prop} {op x y z rg ce lf : Nat → Int32} {n : Nat} (hn : n ≤ 24) (hok : ∀ i, i < n → da_ok op x y z i)
    (hp : post (nI (da_Y op x y z n))) : wpY_addressSide post ((nI n), op, x, y, z, rg, ce, lf) :=
  ⟨10, da_ya9 hn hok hp 9 0 (by omega)⟩
theorem i_vc_addressSide {k : Nat} {u : SX} {v : SY} (I : i_Rel k u v) (hk : k + 5 ≤ 2562) : wpX_addressSide (fun r => wpY_addressSide (fun r' => r' = r ∧ i_Rel (k + 5) u v) v) u := by
  obtain ⟨dq, lt, n, rs, bu, cy, ex, oh, oc, sh, sc, op, x, y, z, rg, ce, ar, ps, on, ls, pl, ov, oa, sl, lf, h1, h2, h3, h4, h5, h6, rfl, rfl⟩ := I
  exact da_xside h5 h6 (da_yside h5 h6 ⟨congrArg nI (da_XY op x y z (da_ok_B op x y z h6)).symm, da_Rel _ h1 h2 h3 h4 h5 h6⟩)
end
section
/-! Well-formedness, both walks -/
def da_bv (b : Bool) : Int32 := if b = true then 1 else 0
theorem da_bv0 {post : Int32 → Prop} {b : Bool} (h : b = false) (hp : post (da_bv b)) : post 0 := by rw [h] at hp; exact hp
theorem da_bv1 {post : Int32 → Prop} {b : Bool} (h : b = true) (hp : post (da_bv b)) : post 1 := by rw [h] at hp; exact hp
theorem da_m1 : (0 : Int32) + (-1) = -1 := by decide
theorem da_a0 (v : Int32) : v + 0 = v := Int32.add_zero v
theorem da_cm1 {c : Nat} (h : ¬ c = 0) : nI c + (-1) = nI (c - 1) := by
  obtain ⟨q, rfl⟩ : ∃ q, c = q + 1 := ⟨c - 1, by omega⟩
  rw [pk_m1]; rfl
theorem da_xlc {post : Int32 → Prop} {qd ll ln rs bu cy ex oh oc sh sc : Int32} {op x y z rg ce ar ps on ls pl ov oa sl : Nat → Int32} {i : Nat} (hi : i < 24) (h9 : op i = 9 → post 1) (h10 : op i = 10 → post (-1)) (ho : ¬ op i = 9 → ¬ op i = 10 → post 0) : wpX_loopChange post (qd, ll, ln, rs, bu, cy, ex, oh, oc, sh, sc, op, x, y, z, rg, ce, ar, ps, on, ls, pl, ov, oa, sl) (nI i) := by
  have e : (nI i).toNatClampNeg = i := nI_clamp (by omega)
  have v : vp_in (nI i) 24 := vp_in_nI hi (by decide)
  simp only [wpX_loopChange, e]
  exact ⟨v, br_c h9 (fun n9 => ⟨v, br_c h10 (fun n10 => ho n9 n10)⟩)⟩
theorem da_bal_9 {op : Nat → Int32} {most m i c : Nat} (h : op i = 9) (hc : c + 1 ≤ most) : da_bal op most (m + 1) i c = da_bal op most m (i + 1) (c + 1) := by
  rw [da_bal, if_pos h, if_pos hc]
theorem da_bal_9f {op : Nat → Int32} {most m i c : Nat} (h : op i = 9) (hc : ¬ c + 1 ≤ most) : da_bal op most (m + 1) i c = false := by
  rw [da_bal, if_pos h, if_neg hc]
theorem da_bal_10 {op : Nat → Int32} {most m i c : Nat} (h : op i = 10) (hc : ¬ c = 0) : da_bal op most (m + 1) i c = da_bal op most m (i + 1) (c - 1) := by
  rw [da_bal, if_neg (da_n109 h), if_pos h, if_neg hc]
theorem da_bal_10f {op : Nat → Int32} {most m i c : Nat} (h : op i = 10) (hc : c = 0) : da_bal op most (m + 1) i c = false := by
  rw [da_bal, if_neg (da_n109 h), if_pos h, if_pos hc]
theorem da_bal_o {op : Nat → Int32} {most m i c : Nat} (h9 : ¬ op i = 9) (h10 : ¬ op i = 10) : da_bal op most (m + 1) i c = da_bal op most m (i + 1) c := by
  rw [da_bal, if_neg h9, if_neg h10]
theorem da_bal_0t {op : Nat → Int32} {most i c : Nat} (hc : c = 0) : da_bal op most 0 i c = true := by rw [da_bal, hc]; rfl
theorem da_bal_0f {op : Nat → Int32} {most i c : Nat} (hc : ¬ c = 0) : da_bal op most 0 i c = false := by
  rw [da_bal]
  cases c with
  | zero => exact absurd rfl hc
  | succ c => rfl
theorem da_n0m1 : ¬ (0 : Int32) ≤ -1 := by decide

theorem da_xcs {post : Int32 → Prop} {qd ll ln rs bu cy ex oh oc sh sc : Int32} {op x y z rg ce ar ps on ls pl ov oa sl : Nat → Int32} {la : Nat} (hla : la < 24) : ∀ m i c : Nat, i + m = la + 1 → c + m ≤ 24 → post (da_bv (da_bal op 24 m i c)) →
    wX_canSkip_26 post (nI la) qd ll ln rs bu cy ex oh oc sh sc op x y z rg ce ar ps on ls pl ov oa sl (m + 1) (nI c) (nI i) := by
  intro m
  induction m with
  | zero =>
    intro i c h1 h2 hp
    refine br_t (nI_lt (by omega) (by omega)) ?_
    by_cases hc : c = 0
    · have hp1 := da_bv1 (da_bal_0t hc) hp
      rw [hc]; exact br_t rfl hp1
    · have hp1 := da_bv0 (da_bal_0f hc) hp
      exact br_f (nI_ne0 (by omega) (by omega)) hp1
  | succ m ih =>
    intro i c h1 h2 hp
    refine br_f (nI_nlt (by omega) (by omega)) (da_xlc (by omega) (fun h9 => ?_) (fun h10 => ?_) (fun h9 h10 => ?_))
    · rw [da_bal_9 h9 (by omega)] at hp
      exact nm_r (nI_1 c) (br_t (nI_pos' (by omega)) (nm_r (nI_1 i) (ih (i + 1) (c + 1) (by omega) (by omega) hp)))
    · by_cases hc : c = 0
      · have hp1 := da_bv0 (da_bal_10f h10 hc) hp
        rw [hc]
        exact nm_r da_m1 (br_f da_n0m1 hp1)
      · rw [da_bal_10 h10 hc] at hp
        exact nm_r (da_cm1 hc) (br_t (nI_pos' (by omega)) (nm_r (nI_1 i) (ih (i + 1) (c - 1) (by omega) (by omega) hp)))
    · rw [da_bal_o h9 h10] at hp
      exact nm_r (da_a0 _) (br_t (nI_pos' (by omega)) (nm_r (nI_1 i) (ih (i + 1) c (by omega) (by omega) hp)))
theorem da_xcan {post : Int32 → Prop} {qd ll rs bu cy ex oh oc sh sc : Int32} {op x y z rg ce ar ps on ls pl ov oa sl : Nat → Int32} {n i b : Nat} (hn : n ≤ 24) (hi : i < n) (h8 : op i = 8) (hb : b ≤ 8) (hy : y i = nI b)
    (hp : post (da_bv (da_sok op y n i))) : wpX_canSkip post (qd, ll, (nI n), rs, bu, cy, ex, oh, oc, sh, sc, op, x, y, z, rg, ce, ar, ps, on, ls, pl, ov, oa, sl) (nI i) := by
  have e : (nI i).toNatClampNeg = i := nI_clamp (by omega)
  have v : vp_in (nI i) 24 := vp_in_nI (by omega) (by decide)
  unfold da_sok at hp
  rw [if_pos h8, hy, nI_clamp (by omega)] at hp
  simp only [wpX_canSkip, e]
  rw [hy]
  refine ⟨v, nm_r (nI_add i b) ?_⟩
  by_cases c : i + b < n
  · rw [if_pos c] at hp
    exact br_t (nI_lt c (by omega)) (nm_r (nI_1 i) ⟨b + 1, da_xcs (by omega) b (i + 1) 0 (by omega) (by omega) hp⟩)
  · rw [if_neg c] at hp
    exact br_f (nI_nlt (by omega) (by omega)) hp
theorem da_ok_8 {op x y z : Nat → Int32} {i : Nat} (h : da_ok op x y z i) (h8 : op i = 8) : ∃ b : Nat, b ≤ 8 ∧ y i = nI b := by
  rcases da_kind op x y z h with k | k | k | k | k
  · exact absurd h8 k.2.2.1
  · rw [h8] at k; exact absurd k.1 (by decide)
  · obtain ⟨_, _, b, _, hb, hy⟩ := k
    exact ⟨b, hb, hy⟩
  · rw [h8] at k; exact absurd k.1 (by decide)
  · rw [h8] at k; exact absurd k (by decide)
theorem da_sok_t {op y : Nat → Int32} {n i : Nat} (h : ¬ op i = 8) : da_sok op y n i = true := by unfold da_sok; rw [if_neg h]

theorem da_xw4 {post : Int32 → Prop} {qd ll rs bu cy ex oh oc sh sc : Int32} {op x y z rg ce ar ps on ls pl ov oa sl : Nat → Int32} {n : Nat} (hn : n ≤ 24) (hok : ∀ i, i < n → da_ok op x y z i) : ∀ m i c : Nat, i + m = n → c ≤ 2 →
    post (da_bv (da_bal op 2 m i c && da_asok op y n m i)) → wX_isWellFormed_4 post qd ll (nI n) rs bu cy ex oh oc sh sc op x y z rg ce ar ps on ls pl ov oa sl (m + 1) (nI c) (nI i) := by
  intro m
  induction m with
  | zero =>
    intro i c h1 h2 hp
    refine br_t (nI_le (by omega) (by omega)) ?_
    by_cases hc : c = 0
    · have hp1 := da_bv1 (by rw [da_bal_0t hc]; rfl) hp
      rw [hc]; exact br_t rfl hp1
    · have hp1 := da_bv0 (by rw [da_bal_0f hc]; rfl) hp
      exact br_f (nI_ne0 (by omega) (by omega)) hp1
  | succ m ih =>
    intro i c h1 h2 hp
    have e : (nI i).toNatClampNeg = i := nI_clamp (by omega)
    have v : vp_in (nI i) 24 := vp_in_nI (by omega) (by decide)
    refine br_f (nI_ge (by omega) (by omega)) (da_xlc (by omega) (fun h9 => ?_) (fun h10 => ?_) (fun h9 h10 => ?_))
    · have n8 : ¬ op i = 8 := by rw [h9]; decide
      by_cases hc : c + 1 ≤ 2
      · rw [da_bal_9 h9 hc, da_asok, da_sok_t n8, Bool.true_and] at hp
        refine nm_r (nI_1 c) (br_f (nI_pos (by omega)) (br_t (nI_le (b := 2) hc (by decide)) ⟨v, ?_⟩))
        rw [e]
        exact br_f n8 (nm_r (nI_1 i) (ih (i + 1) (c + 1) (by omega) hc hp))
      · have hp1 := da_bv0 (by rw [da_bal_9f h9 hc]; rfl) hp
        exact nm_r (nI_1 c) (br_f (nI_pos (by omega)) (br_f (nI_ge (a := 2) (by omega) (by omega)) hp1))
    · have n8 : ¬ op i = 8 := by rw [h10]; decide
      by_cases hc : c = 0
      · have hp1 := da_bv0 (by rw [da_bal_10f h10 hc]; rfl) hp
        rw [hc]
        exact nm_r da_m1 (br_t (by decide) hp1)
      · rw [da_bal_10 h10 hc, da_asok, da_sok_t n8, Bool.true_and] at hp
        refine nm_r (da_cm1 hc) (br_f (nI_pos (by omega)) (br_t (nI_le (b := 2) (by omega) (by decide)) ⟨v, ?_⟩))
        rw [e]
        exact br_f n8 (nm_r (nI_1 i) (ih (i + 1) (c - 1) (by omega) (by omega) hp))
    · rw [da_bal_o h9 h10, da_asok] at hp
      refine nm_r (da_a0 _) (br_f (nI_pos (by omega)) (br_t (nI_le (b := 2) (by omega) (by decide)) ⟨v, ?_⟩))
      rw [e]
      by_cases h8 : op i = 8
      · obtain ⟨b, hb, hy⟩ := da_ok_8 (hok i (by omega)) h8
        refine br_t h8 (da_xcan hn (by omega) h8 hb hy ?_)
        by_cases hs : da_sok op y n i = true
        · rw [hs, Bool.true_and] at hp
          rw [hs]
          exact br_f da_n10 (nm_r (nI_1 i) (ih (i + 1) c (by omega) h2 hp))
        · have hs' := Bool.eq_false_iff.mpr hs
          rw [hs', Bool.false_and, Bool.and_false] at hp
          rw [hs']
          exact br_t rfl hp
      · rw [da_sok_t h8, Bool.true_and] at hp
        exact br_f h8 (nm_r (nI_1 i) (ih (i + 1) c (by omega) h2 hp))
theorem da_xwf {post : Int32 → Prop} {qd ll rs bu cy ex oh oc sh sc : Int32} {op x y z rg ce ar ps on ls pl ov oa sl : Nat → Int32} {n : Nat} (hn : n ≤ 24) (hok : ∀ i, i < n → da_ok op x y z i) (hp : post (da_bv (da_wf op y n))) : wpX_isWellFormed post (qd, ll, (nI n), rs, bu, cy, ex, oh, oc, sh, sc, op, x, y, z, rg, ce, ar, ps, on, ls, pl, ov, oa, sl) :=
  ⟨n + 1, da_xw4 hn hok n 0 0 (by omega) (by omega) hp⟩

theorem da_yb42 {post : Int32 → Prop} {J : Int32 → Int32 → Prop} {yn : Int32} {op x y z rg ce lf : Nat → Int32} {t : Int32} {most c i : Nat} (hm : most < 100) (hc : c ≤ most) (hp : J (nI c) (nI (i + 1))) :
    wY_balanced_42 post J t (nI most) (nI c) (nI i) yn op x y z rg ce lf :=
  br_f (nI_pos (by omega)) (br_t (nI_le hc (by omega)) (nm_r (nI_1 i) hp))
theorem da_ybal {post : Int32 → Prop} {yn : Int32} {op x y z rg ce lf : Nat → Int32} {t most : Nat} (ht : t ≤ 24) (hm : most < 100) : ∀ m i c : Nat, i + m = t → c ≤ most → post (da_bv (da_bal op most m i c)) →
    wY_balanced_6 post (nI t) (nI most) yn op x y z rg ce lf (m + 1) (nI c) (nI i) := by
  intro m
  induction m with
  | zero =>
    intro i c h1 h2 hp
    refine br_t (nI_le (by omega) (by omega)) ?_
    by_cases hc : c = 0
    · have hp1 := da_bv1 (da_bal_0t hc) hp
      rw [hc]; exact br_t rfl hp1
    · have hp1 := da_bv0 (da_bal_0f hc) hp
      exact br_f (nI_ne0 (by omega) (by omega)) hp1
  | succ m ih =>
    intro i c h1 h2 hp
    have e : (nI i).toNatClampNeg = i := nI_clamp (by omega)
    have v : vp_in (nI i) 24 := vp_in_nI (by omega) (by decide)
    refine br_f (nI_ge (by omega) (by omega)) ⟨v, ?_⟩
    rw [e]
    by_cases h9 : op i = 9
    · have n10 : ¬ op i = 10 := by rw [h9]; decide
      refine br_t h9 (nm_r (nI_1 c) ?_)
      simp only [wY_balanced_27, e]
      refine ⟨v, br_f n10 ?_⟩
      by_cases hc : c + 1 ≤ most
      · rw [da_bal_9 h9 hc] at hp
        exact da_yb42 hm hc (ih (i + 1) (c + 1) (by omega) hc hp)
      · have hp1 := da_bv0 (da_bal_9f h9 hc) hp
        exact br_f (nI_pos (by omega)) (br_f (nI_ge (by omega) (by omega)) hp1)
    · refine br_f h9 ?_
      simp only [wY_balanced_27, e]
      by_cases h10 : op i = 10
      · refine ⟨v, br_t h10 ?_⟩
        by_cases hc : c = 0
        · have hp1 := da_bv0 (da_bal_10f h10 hc) hp
          rw [hc]
          exact nm_r da_m1 (br_t (by decide) hp1)
        · rw [da_bal_10 h10 hc] at hp
          exact nm_r (da_cm1 hc) (da_yb42 hm (by omega) (ih (i + 1) (c - 1) (by omega) (by omega) hp))
      · rw [da_bal_o h9 h10] at hp
        exact ⟨v, br_f h10 (da_yb42 hm h2 (ih (i + 1) c (by omega) h2 hp))⟩
theorem da_yw17 {post : Int32 → Prop} {op x y z rg ce lf : Nat → Int32} {n : Nat} (hn : n ≤ 24) (hok : ∀ i, i < n → da_ok op x y z i) : ∀ m i : Nat, i + m = n →
    post (da_bv (da_asok op y n m i)) → wY_wellFormed_17 post (nI n) op x y z rg ce lf (m + 1) (nI i) := by
  intro m
  induction m with
  | zero =>
    intro i h1 hp
    exact br_t (nI_le (by omega) (by omega)) hp
  | succ m ih =>
    intro i h1 hp
    have e : (nI i).toNatClampNeg = i := nI_clamp (by omega)
    have v : vp_in (nI i) 24 := vp_in_nI (by omega) (by decide)
    rw [da_asok] at hp
    refine br_f (nI_ge (by omega) (by omega)) ⟨v, ?_⟩
    rw [e]
    by_cases h8 : op i = 8
    · obtain ⟨b, hb, hy⟩ := da_ok_8 (hok i (by omega)) h8
      refine br_t h8 ⟨v, ?_⟩
      unfold da_sok at hp
      rw [if_pos h8, hy, nI_clamp (by omega)] at hp
      rw [hy, nI_add, nI_1, nI_add]
      by_cases c : i + b < n
      · rw [if_pos c] at hp
        refine br_t (nI_lt c (by omega)) ⟨v, ⟨b + 1, da_ybal (t := i + 1 + b) (most := 24) (by omega) (by decide) b (i + 1) 0 (by omega) (by omega) ?_⟩⟩
        by_cases hs : da_bal op 24 b (i + 1) 0 = true
        · rw [hs, Bool.true_and] at hp
          rw [hs]
          exact br_f da_n10 (nm_e (ih (i + 1) (by omega) hp))
        · have hs' := Bool.eq_false_iff.mpr hs
          rw [hs', Bool.false_and] at hp
          rw [hs']
          exact br_t rfl hp
      · rw [if_neg c, Bool.false_and] at hp
        exact br_f (nI_nlt (by omega) (by omega)) hp
    · rw [da_sok_t h8, Bool.true_and] at hp
      exact br_f h8 (nm_r (nI_1 i) (ih (i + 1) (by omega) hp))
theorem da_ywf {post : Int32 → Prop} {op x y z rg ce lf : Nat → Int32} {n : Nat} (hn : n ≤ 24) (hok : ∀ i, i < n → da_ok op x y z i) (hp : post (da_bv (da_wf op y n))) : wpY_wellFormed post ((nI n), op, x, y, z, rg, ce, lf) := by
  refine ⟨n + 1, da_ybal (t := n) (most := 2) hn (by decide) n 0 0 (by omega) (by omega) ?_⟩
  unfold da_wf at hp
  by_cases hs : da_bal op 2 n 0 0 = true
  · rw [hs, Bool.true_and] at hp
    rw [hs]
    exact br_f da_n10 ⟨n + 1, da_yw17 hn hok n 0 (by omega) hp⟩
  · have hs' := Bool.eq_false_iff.mpr hs
    rw [hs', Bool.false_and] at hp
    rw [hs']
    exact br_t rfl hp
end
section
/-! The reference's run -/
theorem da_pm1 (v : Int32) : v + (-1) = v - 1 := (Int32.sub_eq_add_neg v 1).symm
theorem da_ybeg {post : Int32 → Prop} {yn : Int32} {op x y z rg ce lf : Nat → Int32} : ∀ m c : Nat, m ≤ 24 → 1 ≤ c → c + m ≤ 100 → post (nI (da_bg op m c)) →
    wY_beginOf_6 post yn op x y z rg ce lf (m + 1) (nI c) (nI m - 1) := by
  intro m
  induction m with
  | zero =>
    intro c _ _ _ hp
    rw [da_bg_0] at hp
    exact br_t (by decide) hp
  | succ m ih =>
    intro c hm hc hcm hp
    have e : (nI m).toNatClampNeg = m := nI_clamp (by omega)
    have v : vp_in (nI m) 24 := vp_in_nI (by omega) (by decide)
    rw [nI_pred]
    refine br_f (nI_pos (by omega)) ⟨v, ?_⟩
    rw [e]
    by_cases h10 : op m = 10
    · have n9 : ¬ op m = 9 := da_n109 h10
      rw [da_bg_10 op h10 hc] at hp
      refine br_t h10 (nm_r (nI_1 c) ?_)
      simp only [wY_beginOf_24, e]
      exact ⟨v, br_f n9 (br_f (nI_ne0 (by omega) (by omega)) (nm_r (da_pm1 _) (ih (c + 1) (by omega) (by omega) (by omega) hp)))⟩
    · refine br_f h10 ?_
      simp only [wY_beginOf_24, e]
      refine ⟨v, ?_⟩
      by_cases h9 : op m = 9
      · refine br_t h9 (nm_r (da_cm1 (by omega)) ?_)
        by_cases c1 : c = 1
        · subst c1
          rw [da_bg_9a op h9] at hp
          exact br_t rfl hp
        · rw [da_bg_9b op h9 (by omega)] at hp
          exact br_f (nI_ne0 (by omega) (by omega)) (nm_r (da_pm1 _) (ih (c - 1) (by omega) (by omega) (by omega) hp))
      · rw [da_bg_o op h9 h10] at hp
        exact br_f h9 (br_f (nI_ne0 (by omega) (by omega)) (nm_r (da_pm1 _) (ih c (by omega) (by omega) (by omega) hp)))
theorem da_ysum {post : Int32 → Prop} {yn : Int32} {op x y z rg ce lf : Nat → Int32} {o a b : Int32} (hp : post (da_sum o a b)) : wpY_sum post (yn, op, x, y, z, rg, ce, lf) o a b := by
  unfold da_sum at hp
  refine br_c (fun h => ?_) (fun h0 => br_c (fun h => ?_) (fun h1 => br_c (fun h => ?_) (fun h2 => br_c (fun h => ?_) (fun h3 => ?_))))
  · rw [if_pos h] at hp; exact hp
  · rw [if_neg h0, if_pos h] at hp; exact hp
  · rw [if_neg h0, if_neg h1, if_pos h] at hp; exact hp
  · rw [if_neg h0, if_neg h1, if_neg h2, if_pos h] at hp; exact hp
  · rw [if_neg h0, if_neg h1, if_neg h2, if_neg h3] at hp
    by_cases c : a < b
    · rw [if_pos c] at hp
      exact br_f (Int32.not_le.mpr c) hp
    · rw [if_neg c] at hp
      exact br_t (Int32.not_lt.mp c) hp
theorem da_inI {v : Int32} {m : Nat} (hm : m < 2 ^ 31) (h : ∃ a : Nat, a < m ∧ v = nI a) : vp_in v m := by
  obtain ⟨a, ha, rfl⟩ := h
  exact vp_in_nI ha hm
theorem da_in15 (v : Int32) : vp_in (v &&& 15) 16 := pk_andIn v 4 (by decide) (by decide)

theorem da_ystep {post : Int32 → SY → Prop} {op x y z : Nat → Int32} {n : Nat} (G : da_G op x y z n) (s : da_St) (I : da_I op n s) (hn : s.1 < n)
    (hp : post (nI (da_st op x y z s).1) (nI n, op, x, y, z, (da_st op x y z s).2.1, (da_st op x y z s).2.2.1, (da_st op x y z s).2.2.2)) :
    wpY_step post (nI n, op, x, y, z, s.2.1, s.2.2.1, s.2.2.2) (nI s.1) := by
  have n24 : s.1 < 24 := Nat.lt_of_lt_of_le hn G.1
  have e : (nI s.1).toNatClampNeg = s.1 := nI_clamp (by omega)
  have v : vp_in (nI s.1) 24 := vp_in_nI n24 (by decide)
  simp only [wpY_step, e]
  refine ⟨v, nm_e ?_⟩
  rcases da_kind op x y z (G.2.1 s.1 hn) with k | k | k | k | k
  · obtain ⟨k6, h7, h8, h9, h10, hx, hy, kk⟩ := k
    have vx := da_inI (m := 8) (by decide) hx
    have vy := da_inI (m := 8) (by decide) hy
    rw [da_st_t op x y z h7 h8 h9 h10] at hp
    dsimp only at hp
    unfold da_tv at hp
    rcases kk with h5 | h6 | ⟨h4, n5, n6, hz⟩
    · rw [if_pos h5] at hp
      exact br_t (by rw [h5]; decide) (br_t h5 ⟨v, v, vy, v, vx, nm_e (by rw [nI_1]; exact hp)⟩)
    · have n5 : ¬ op s.1 = 5 := by rw [h6]; decide
      rw [if_neg n5, if_pos h6] at hp
      exact br_t (by rw [h6]; decide) (br_f n5 (br_t h6 ⟨v, v, vy, v, da_in15 _, vx, nm_e (by rw [nI_1]; exact hp)⟩))
    · have vz := da_inI (m := 8) (by decide) hz
      rw [if_neg n5, if_neg n6] at hp
      refine br_f (Int32.not_lt.mpr h4) ⟨v, v, vy, v, vz, da_ysum ⟨vx, nm_e ?_⟩⟩
      rw [nI_1]; exact hp
  · obtain ⟨h7, hx, hy⟩ := k
    have vx := da_inI (m := 8) (by decide) hx
    have vy := da_inI (m := 8) (by decide) hy
    rw [da_st_7 op x y z h7] at hp
    dsimp only at hp
    exact br_t (by rw [h7]; decide) (br_f (by rw [h7]; decide) (br_f (by rw [h7]; decide) (br_t h7 ⟨v, vy, v, v, vx, da_in15 _, nm_e (by rw [nI_1]; exact hp)⟩)))
  · obtain ⟨h8, hx, b, hb1, hb8, hy⟩ := k
    have vx := da_inI (m := 8) (by decide) hx
    rw [da_st_8 op x y z h8] at hp
    dsimp only at hp
    refine br_t (by rw [h8]; decide) (br_f (by rw [h8]; decide) (br_f (by rw [h8]; decide) (br_f (by rw [h8]; decide) (br_t h8 ⟨v, vx, ?_⟩))))
    by_cases c : s.2.1 (x s.1).toNatClampNeg = 0
    · rw [if_pos c, hy, nI_clamp (by omega)] at hp
      refine br_t c ⟨v, ?_⟩
      rw [hy, nI_1, nI_add]; exact hp
    · rw [if_neg c] at hp
      refine br_f c ?_
      simp only [wY_step_213]
      refine br_f (by rw [h8]; decide) (br_f (by rw [h8]; decide) ?_)
      rw [nI_1]; exact hp
  · obtain ⟨h9, a, ha1, ha6, hx⟩ := k
    rw [da_st_9 op x y z h9] at hp
    dsimp only at hp
    refine br_t (by rw [h9]; decide) (br_f (by rw [h9]; decide) (br_f (by rw [h9]; decide) (br_f (by rw [h9]; decide) (br_f (by rw [h9]; decide) ?_))))
    simp only [wY_step_213, e]
    refine br_t h9 ⟨v, v, nm_e ?_⟩
    rw [nI_1]; exact hp
  · cases he : da_enc op s.1 with
    | nil => exact absurd he (G.2.2.2.2.1 s.1 hn k)
    | cons b st =>
      obtain ⟨p, hp1, hp6, hpL⟩ := I.2 b (by rw [he]; exact List.mem_cons_self)
      obtain ⟨hb1, hb2, hb3⟩ := da_enc_hd op he
      have hb : da_bg op s.1 1 = b := by rw [da_bg_hd]; unfold da_hd; rw [he]; rfl
      have eb : (nI b).toNatClampNeg = b := nI_clamp (by omega)
      have vb : vp_in (nI b) 24 := vp_in_nI (by omega) (by decide)
      rw [da_st_10 op x y z k he] at hp
      dsimp only at hp
      refine br_t (by rw [k]; decide) (br_f (by rw [k]; decide) (br_f (by rw [k]; decide) (br_f (by rw [k]; decide) (br_f (by rw [k]; decide) ?_))))
      simp only [wY_step_213]
      refine br_f (by rw [k]; decide) (br_t k ?_)
      simp only [wpY_beginOf]
      refine nm_e ⟨s.1 + 1, da_ybeg s.1 1 (by omega) (by omega) (by omega) ?_⟩
      rw [hb]
      simp only [eb]
      refine ⟨vb, vb, nm_e ⟨vb, ?_⟩⟩
      rw [pk_us]
      by_cases c : 0 < s.2.2.2 b - 1
      · rw [if_pos c] at hp
        refine br_f (Int32.not_le.mpr c) ?_
        rw [nI_1]; exact hp
      · rw [if_neg c] at hp
        refine br_t (Int32.not_lt.mp c) ?_
        rw [nI_1]; exact hp
theorem da_yloop {post : Int32 → SY → Prop} {op x y z : Nat → Int32} {n K m : Nat} {sd : Nat → Bool} {tr : Nat → da_St} (F : da_F op x y z n K m sd tr) (hK : K ≤ 864)
    (hp : post (nI K) (nI n, op, x, y, z, (tr K).2.1, (tr K).2.2.1, (tr K).2.2.2)) : ∀ d k : Nat, k + d = K →
    wY_run_16 post (d + 1) (nI (tr k).1) (nI k) (nI k) (nI n) op x y z (tr k).2.1 (tr k).2.2.1 (tr k).2.2.2 := by
  obtain ⟨G, ht, hlt, hKn, hI, _⟩ := F
  have hn24 := G.1
  intro d
  induction d with
  | zero =>
    intro k h
    have e : k = K := by omega
    subst e
    rw [hKn]
    exact br_f (nI_ge (b := 4000) (by omega) (by decide)) (br_t (nI_le (Nat.le_refl _) (by omega)) hp)
  | succ d ih =>
    intro k h
    have h1 := ih (k + 1) (by omega)
    have hk := hlt k (by omega)
    rw [ht] at h1
    exact br_f (nI_ge (b := 4000) (by omega) (by decide)) (br_f (nI_ge hk (by omega)) (da_ystep G (tr k) (hI k (by omega)) hk (nm_r (nI_1 k) (nm_r (nI_1 k) h1))))
end
section
/-! X's own methods, each with a general post -/
theorem da_n4 : ¬ (4 : Int32) = 0 := by decide
theorem da_rm4 (a b : Nat) (hb : b < 100) : (nI (a % 4) + nI b) - (nI (a % 4) + nI b) / 4 * 4 = nI ((a + b) % 4) := by
  have := pk_rem (a := a % 4 + b) (d := 4) (by omega) (by decide) (by decide)
  rw [nI_add]
  refine Eq.trans this (congrArg nI ?_)
  omega
theorem da_rm1 (a : Nat) : (nI (a % 4) + 1) - (nI (a % 4) + 1) / 4 * 4 = nI ((a + 1) % 4) := da_rm4 a 1 (by decide)
theorem da_xpr {post : SX → Prop} {qd ll ln rs bu cy ex oh oc sh sc : Int32} {op x y z rg ce ar ps on ls pl ov oa sl : Nat → Int32} {h i d : Nat} (hh : h < 2) (hi : i < 24) (hd : d < 2) (ho : on h = nI d)
    (hp : post (qd, ll, ln, rs, bu, cy, ex, oh, oc, sh, sc, op, x, y, z, rg, ce, ar, (upd ps h (nI (i + 1))), (upd on h (nI (d + 1))), (upd ls (2 * h + d) (nI (i + 1))), (upd pl (2 * h + d) (x i)), ov, oa, sl)) : wpX_passRepeat post (qd, ll, ln, rs, bu, cy, ex, oh, oc, sh, sc, op, x, y, z, rg, ce, ar, ps, on, ls, pl, ov, oa, sl) (nI h) (nI i) := by
  have eh : (nI h).toNatClampNeg = h := nI_clamp (by omega)
  have ei : (nI i).toNatClampNeg = i := nI_clamp (by omega)
  have e2 : (nI (2 * h + d)).toNatClampNeg = 2 * h + d := nI_clamp (by omega)
  have et : nI h * 2 + nI d = nI (2 * h + d) := by
    rw [show (2 : Int32) = nI 2 from rfl, pk_mul, nI_add, Nat.mul_comm]
  have vh : vp_in (nI h) 2 := vp_in_nI hh (by decide)
  have vi : vp_in (nI i) 24 := vp_in_nI hi (by decide)
  have v2 : vp_in (nI (2 * h + d)) 4 := vp_in_nI (by omega) (by decide)
  simp only [wpX_passRepeat, eh, ei, ho, nI_1]
  refine ⟨vh, nm_r et ?_⟩
  simp only [e2]
  exact ⟨v2, nm_e ⟨vi, v2, nm_e ⟨vh, vh, nm_e ⟨vh, nm_e hp⟩⟩⟩⟩
theorem da_xpt {h d : Nat} : nI h * 2 + nI (d + 1) - 1 = nI (2 * h + d) := by
  rw [show (2 : Int32) = nI 2 from rfl, pk_mul, nI_add, show h * 2 + (d + 1) = (2 * h + d) + 1 by omega, nI_pred]
theorem da_xpeb {post : SX → Prop} {qd ll ln rs bu cy ex oh oc sh sc : Int32} {op x y z rg ce ar ps on ls pl ov oa sl : Nat → Int32} {h i d b p : Nat} (hh : h < 2) (hi : i < 24) (hd : d < 2) (ho : on h = nI (d + 1)) (hl : ls (2 * h + d) = nI (b + 1)) (hq : pl (2 * h + d) = nI p) (hp2 : 2 ≤ p) (hp6 : p ≤ 6)
    (hp : post (qd, ll, ln, rs, bu, cy, ex, oh, oc, sh, sc, op, x, y, z, rg, ce, ar, (upd ps h (nI (b + 1))), on, ls, (upd pl (2 * h + d) (nI (p - 1))), ov, oa, sl)) : wpX_passEnd post (qd, ll, ln, rs, bu, cy, ex, oh, oc, sh, sc, op, x, y, z, rg, ce, ar, ps, on, ls, pl, ov, oa, sl) (nI h) (nI i) := by
  have eh : (nI h).toNatClampNeg = h := nI_clamp (by omega)
  have e2 : (nI (2 * h + d)).toNatClampNeg = 2 * h + d := nI_clamp (by omega)
  have vh : vp_in (nI h) 2 := vp_in_nI hh (by decide)
  have v2 : vp_in (nI (2 * h + d)) 4 := vp_in_nI (by omega) (by decide)
  simp only [wpX_passEnd, eh, ho]
  refine ⟨vh, nm_r da_xpt ?_⟩
  simp only [e2, hq, hl, da_dec1 (show 1 ≤ p by omega) hp6]
  refine ⟨v2, v2, nm_e ⟨v2, ?_⟩⟩
  rw [pk_us]
  exact br_f (nI_nle (by omega) (by omega)) ⟨v2, vh, nm_e hp⟩
theorem da_xpep {post : SX → Prop} {qd ll ln rs bu cy ex oh oc sh sc : Int32} {op x y z rg ce ar ps on ls pl ov oa sl : Nat → Int32} {h i d p : Nat} (hh : h < 2) (hi : i < 24) (hd : d < 2) (ho : on h = nI (d + 1)) (hq : pl (2 * h + d) = nI p) (hp1 : p = 1)
    (hp : post (qd, ll, ln, rs, bu, cy, ex, oh, oc, sh, sc, op, x, y, z, rg, ce, ar, (upd ps h (nI (i + 1))), (upd on h (nI d)), ls, (upd pl (2 * h + d) (nI (p - 1))), ov, oa, sl)) : wpX_passEnd post (qd, ll, ln, rs, bu, cy, ex, oh, oc, sh, sc, op, x, y, z, rg, ce, ar, ps, on, ls, pl, ov, oa, sl) (nI h) (nI i) := by
  have eh : (nI h).toNatClampNeg = h := nI_clamp (by omega)
  have e2 : (nI (2 * h + d)).toNatClampNeg = 2 * h + d := nI_clamp (by omega)
  have vh : vp_in (nI h) 2 := vp_in_nI hh (by decide)
  have v2 : vp_in (nI (2 * h + d)) 4 := vp_in_nI (by omega) (by decide)
  simp only [wpX_passEnd, eh, ho, nI_pred, nI_1]
  refine ⟨vh, nm_r da_xpt ?_⟩
  simp only [e2, hq, da_dec1 (show 1 ≤ p by omega) (show p ≤ 6 by omega)]
  refine ⟨v2, v2, nm_e ⟨v2, ?_⟩⟩
  rw [pk_us]
  refine br_t (by rw [hp1]; decide) ⟨vh, vh, nm_e ⟨vh, nm_e hp⟩⟩

theorem da_lss {post : Int32 → Prop} {a b : Int32} (hp : post (if a < b then 1 else 0)) : (b ≤ a → post 0) ∧ (¬ b ≤ a → post 1) := by
  by_cases c : a < b
  · rw [if_pos c] at hp
    exact br_f (Int32.not_le.mpr c) hp
  · rw [if_neg c] at hp
    exact br_t (Int32.not_lt.mp c) hp
theorem da_xsm {post : Int32 → Prop} {a b : Int32} : ∀ k : Nat, k ≤ 4 → post (da_sum (nI k) a b) →
    ((nI k < 0 → ((b ≤ a → post 0) ∧ (¬ b ≤ a → post 1))) ∧ (¬ nI k < 0 → ((3 < nI k → ((b ≤ a → post 0) ∧ (¬ b ≤ a → post 1))) ∧ (¬ 3 < nI k →
      ((nI k = 0 → post (a + b)) ∧ (¬ nI k = 0 → ((nI k = 1 → post (a - b)) ∧ (¬ nI k = 1 → ((nI k = 2 → post (a * b)) ∧ (¬ nI k = 2 → ((nI k = 3 → post (a ^^^ b)) ∧ (¬ nI k = 3 → True)))))))))))) 
  | 0, _, hp => br_f (by decide) (br_f (by decide) (br_t rfl hp))
  | 1, _, hp => br_f (by decide) (br_f (by decide) (br_f (by decide) (br_t rfl hp)))
  | 2, _, hp => br_f (by decide) (br_f (by decide) (br_f (by decide) (br_f (by decide) (br_t rfl hp))))
  | 3, _, hp => br_f (by decide) (br_f (by decide) (br_f (by decide) (br_f (by decide) (br_f (by decide) (br_t rfl hp)))))
  | 4, _, hp => br_f (by decide) (br_t (by decide) (da_lss hp))
  | _ + 5, hk, _ => absurd hk (by omega)
theorem da_ok_4 {op x y z : Nat → Int32} {i : Nat} (h : da_ok op x y z i) (h4 : op i ≤ 4) : ∃ k : Nat, k ≤ 4 ∧ op i = nI k := by
  rcases h with ⟨k, a, b, c, hk, ha, hb, hc, ho, hx, hy, hz⟩ | ⟨k, a, b, hk, hk', ha, hb, ho, hx, hy⟩ | ⟨a, b, ha, hb, hb', ho, hx, hy⟩ | ⟨a, h1, h2, ho, hx⟩ | ho
  · exact ⟨k, hk, ho⟩
  · rw [ho] at h4
    exact absurd ((nI_leI (b := 4) (by omega) (by omega)).mp h4) (by omega)
  · rw [ho] at h4; exact absurd h4 (by decide)
  · rw [ho] at h4; exact absurd h4 (by decide)
  · rw [ho] at h4; exact absurd h4 (by decide)
theorem da_xcr {post : Int32 → Prop} {qd ll ln rs bu cy ex oh oc sh sc : Int32} {op x y z rg ce ar ps on ls pl ov oa sl : Nat → Int32} {i : Nat} (hi : i < 24) (hok : da_ok op x y z i) (k : da_kT op x y z i) (h6 : ¬ op i = 6) (hp : post (da_tv op y z i rg ce)) : wpX_computed__registers post (qd, ll, ln, rs, bu, cy, ex, oh, oc, sh, sc, op, x, y, z, rg, ce, ar, ps, on, ls, pl, ov, oa, sl) (nI i) := by
  have e : (nI i).toNatClampNeg = i := nI_clamp (by omega)
  have v : vp_in (nI i) 24 := vp_in_nI hi (by decide)
  obtain ⟨k6, h7, h8, h9, h10, hx, hy, kk⟩ := k
  have vy := da_inI (m := 8) (by decide) hy
  unfold da_tv at hp
  simp only [wpX_computed__registers, e]
  refine ⟨v, vy, nm_e ⟨v, ?_⟩⟩
  rcases kk with h5 | h | ⟨h4, n5, _, hz⟩
  · rw [if_pos h5] at hp
    exact br_t h5 ⟨v, hp⟩
  · exact absurd h h6
  · have vz := da_inI (m := 8) (by decide) hz
    rw [if_neg n5, if_neg h6] at hp
    refine br_f n5 ⟨v, vz, nm_e ⟨v, nm_e ?_⟩⟩
    obtain ⟨q, hq, eq⟩ := da_ok_4 hok h4
    rw [eq] at hp ⊢
    exact da_xsm q hq hp
theorem da_xca {post : Int32 → Prop} {qd ll ln rs bu cy ex oh oc sh sc : Int32} {op x y z rg ce ar ps on ls pl ov oa sl : Nat → Int32} {i : Nat} (hi : i < 24) (hok : da_ok op x y z i) (k : da_kT op x y z i) (h6 : ¬ op i = 6) (hp : post (da_tv op y z i ar ce)) : wpX_computed__accessRegisters post (qd, ll, ln, rs, bu, cy, ex, oh, oc, sh, sc, op, x, y, z, rg, ce, ar, ps, on, ls, pl, ov, oa, sl) (nI i) := by
  have e : (nI i).toNatClampNeg = i := nI_clamp (by omega)
  have v : vp_in (nI i) 24 := vp_in_nI hi (by decide)
  obtain ⟨k6, h7, h8, h9, h10, hx, hy, kk⟩ := k
  have vy := da_inI (m := 8) (by decide) hy
  unfold da_tv at hp
  simp only [wpX_computed__accessRegisters, e]
  refine ⟨v, vy, nm_e ⟨v, ?_⟩⟩
  rcases kk with h5 | h | ⟨h4, n5, _, hz⟩
  · rw [if_pos h5] at hp
    exact br_t h5 ⟨v, hp⟩
  · exact absurd h h6
  · have vz := da_inI (m := 8) (by decide) hz
    rw [if_neg n5, if_neg h6] at hp
    refine br_f n5 ⟨v, vz, nm_e ⟨v, nm_e ?_⟩⟩
    obtain ⟨q, hq, eq⟩ := da_ok_4 hok h4
    rw [eq] at hp ⊢
    exact da_xsm q hq hp

theorem da_xnd {post : Int32 → Prop} {qd ll ln bu cy ex oh oc sh sc : Int32} {op x y z rg ce ar ps on ls pl ov oa sl : Nat → Int32} {sd : Nat → Bool} {m i : Nat} (hi : i < 24) (hm : m < 256) (hsd : ∀ r, sd r = m.testBit r) (hok : da_ok op x y z i)
    (hp : post (da_bv (da_nd op x sd i))) : wpX_needsOperand post (qd, ll, ln, (nI m), bu, cy, ex, oh, oc, sh, sc, op, x, y, z, rg, ce, ar, ps, on, ls, pl, ov, oa, sl) (nI i) := by
  have e : (nI i).toNatClampNeg = i := nI_clamp (by omega)
  have v : vp_in (nI i) 24 := vp_in_nI hi (by decide)
  obtain ⟨r1, _, _⟩ := da_ok_r hok
  simp only [wpX_needsOperand, e]
  by_cases h6 : op i = 6
  · exact ⟨v, br_t h6 (da_bv1 (da_nd_6 op x h6) hp)⟩
  · by_cases h8 : op i = 8
    · exact ⟨v, br_f h6 ⟨v, br_t h8 (da_bv1 (da_nd_8 op x h8) hp)⟩⟩
    · refine ⟨v, br_f h6 ⟨v, br_f h8 ?_⟩⟩
      by_cases hle : op i ≤ 6
      · rw [da_nd_t op x hle h6, hsd] at hp
        refine da_xht1 hi hle (br_f da_n10 ⟨v, ?_⟩)
        have hx := r1 (Int32.le_trans hle (by decide))
        by_cases hb : m.testBit (x i).toNatClampNeg = true
        · exact da_xin1 hm hx hb (br_f da_n10 (da_bv1 hb hp))
        · exact da_xin0 hm hx (Bool.eq_false_iff.mpr hb) (br_t rfl (da_bv0 (Bool.eq_false_iff.mpr hb) hp))
      · exact da_xht0 hi hle (br_t rfl (da_bv0 (da_nd_f op x hle h8) hp))

theorem da_xry7 {post : Int32 → Prop} {qd ll ln rs bu cy ex oh oc sh sc : Int32} {op x y z rg ce ar ps on ls pl ov oa sl : Nat → Int32} {i q : Nat} (hi : i < 24) (h7 : op i = 7) (hq : q < 100) (hs : sc = nI q) (hp0 : q = 0 → post 0) (hp1 : 1 ≤ q → post 1) : wpX_isExecuteReady post (qd, ll, ln, rs, bu, cy, ex, oh, oc, sh, sc, op, x, y, z, rg, ce, ar, ps, on, ls, pl, ov, oa, sl) (nI i) := by
  have e : (nI i).toNatClampNeg = i := nI_clamp (by omega)
  have v : vp_in (nI i) 24 := vp_in_nI hi (by decide)
  simp only [wpX_isExecuteReady, e, hs]
  refine ⟨v, br_t h7 ?_⟩
  by_cases c : q = 0
  · exact br_t (by rw [c]; decide) (hp0 c)
  · exact br_f (nI_nle (by omega) (by omega)) (hp1 (by omega))
theorem da_xryf {post : Int32 → Prop} {qd ll ln bu cy ex oh oc sh sc : Int32} {op x y z rg ce ar ps on ls pl ov oa sl : Nat → Int32} {sd : Nat → Bool} {m i : Nat} (hi : i < 24) (hm : m < 256) (hsd : ∀ r, sd r = m.testBit r) (hok : da_ok op x y z i) (h7 : ¬ op i = 7) (hn : da_nd op x sd i = false)
    (hp : post 1) : wpX_isExecuteReady post (qd, ll, ln, (nI m), bu, cy, ex, oh, oc, sh, sc, op, x, y, z, rg, ce, ar, ps, on, ls, pl, ov, oa, sl) (nI i) := by
  have e : (nI i).toNatClampNeg = i := nI_clamp (by omega)
  have v : vp_in (nI i) 24 := vp_in_nI hi (by decide)
  simp only [wpX_isExecuteReady, e]
  refine ⟨v, br_f h7 (da_xnd hi hm hsd hok ?_)⟩
  rw [hn]
  exact br_t rfl hp
theorem da_xry0 {post : Int32 → Prop} {qd ll ln bu cy ex oh oc sh sc : Int32} {op x y z rg ce ar ps on ls pl ov oa sl : Nat → Int32} {sd : Nat → Bool} {m i : Nat} (hi : i < 24) (hm : m < 256) (hsd : ∀ r, sd r = m.testBit r) (hok : da_ok op x y z i) (h7 : ¬ op i = 7) (hn : da_nd op x sd i = true)
    (hc : oc = 0) (hp : post 0) : wpX_isExecuteReady post (qd, ll, ln, (nI m), bu, cy, ex, oh, oc, sh, sc, op, x, y, z, rg, ce, ar, ps, on, ls, pl, ov, oa, sl) (nI i) := by
  have e : (nI i).toNatClampNeg = i := nI_clamp (by omega)
  have v : vp_in (nI i) 24 := vp_in_nI hi (by decide)
  simp only [wpX_isExecuteReady, e]
  refine ⟨v, br_f h7 (da_xnd hi hm hsd hok ?_)⟩
  rw [hn]
  exact br_f da_n10 (br_t (by rw [hc]; decide) hp)
theorem da_xryt {post : Int32 → Prop} {qd ll ln bu cy ex oh oc sh sc : Int32} {op x y z rg ce ar ps on ls pl ov oa sl : Nat → Int32} {sd : Nat → Bool} {m i q H t c : Nat} (hi : i < 24) (hm : m < 256) (hsd : ∀ r, sd r = m.testBit r) (hok : da_ok op x y z i) (h7 : ¬ op i = 7) (hn : da_nd op x sd i = true)
    (hq : q < 100) (hc : oc = nI (q + 1)) (ho : oh = nI (H % 4)) (ht : oa (H % 4) = nI t) (ht' : t < 2000000) (hcy : cy = nI c) (hc' : c < 2000000)
    (hp0 : c < t → post 0) (hp1 : t ≤ c → post 1) : wpX_isExecuteReady post (qd, ll, ln, (nI m), bu, cy, ex, oh, oc, sh, sc, op, x, y, z, rg, ce, ar, ps, on, ls, pl, ov, oa, sl) (nI i) := by
  have e : (nI i).toNatClampNeg = i := nI_clamp (by omega)
  have eH : (nI (H % 4)).toNatClampNeg = H % 4 := nI_clamp (by omega)
  have v : vp_in (nI i) 24 := vp_in_nI hi (by decide)
  simp only [wpX_isExecuteReady, e]
  refine ⟨v, br_f h7 (da_xnd hi hm hsd hok ?_)⟩
  rw [hn]
  refine br_f da_n10 (br_f (by rw [hc]; exact nI_nle (by omega) (by omega)) ⟨by rw [ho]; exact vp_in_nI (by omega) (by decide), ?_⟩)
  rw [ho, eH, ht, hcy]
  by_cases c1 : c < t
  · exact br_t (nI_lt c1 (by omega)) (hp0 c1)
  · exact br_f (nI_nlt (by omega) (by omega)) (hp1 (by omega))

theorem da_xes {post : SX → Prop} {qd ll ln rs bu cy ex oh oc sh sc : Int32} {op x y z rg ce ar ps on ls pl ov oa sl : Nat → Int32} {i k Hs : Nat} {cl : Int32} (hi : i < 24) (hx : ∃ a : Nat, a < 8 ∧ x i = nI a) (hcl : ∃ j : Nat, j < 16 ∧ cl = nI j) (hs : sl (Hs % 4) = cl) (hh : sh = nI (Hs % 4)) (hc : sc = nI (k + 1))
    (hp : post (qd, ll, ln, rs, bu, cy, ex, oh, oc, (nI ((Hs + 1) % 4)), (nI k), op, x, y, z, rg, (upd ce cl.toNatClampNeg (rg (x i).toNatClampNeg)), ar, (upd ps 1 (nI (i + 1))), on, ls, pl, ov, oa, sl)) : wpX_executeStore post (qd, ll, ln, rs, bu, cy, ex, oh, oc, sh, sc, op, x, y, z, rg, ce, ar, ps, on, ls, pl, ov, oa, sl) (nI i) := by
  have e : (nI i).toNatClampNeg = i := nI_clamp (by omega)
  have eH : (nI (Hs % 4)).toNatClampNeg = Hs % 4 := nI_clamp (by omega)
  have v : vp_in (nI i) 24 := vp_in_nI hi (by decide)
  simp only [wpX_executeStore, e, hh, hc, eH, hs, nI_pred, nI_1 i]
  exact ⟨vp_in_nI (by omega) (by decide), v, da_inI (m := 8) (by decide) hx, da_inI (m := 16) (by decide) hcl, nm_e ⟨da_n4, nm_r (da_rm1 Hs) (nm_e (nm_e hp))⟩⟩
theorem da_xro {post : Int32 → SX → Prop} {qd ll ln rs bu cy ex oh oc sh sc : Int32} {op x y z rg ce ar ps on ls pl ov oa sl : Nat → Int32} {k H : Nat} (hh : oh = nI (H % 4)) (hc : oc = nI (k + 1))
    (hp : post (ov (H % 4)) (qd, ll, ln, rs, bu, cy, ex, (nI ((H + 1) % 4)), (nI k), sh, sc, op, x, y, z, rg, ce, ar, ps, on, ls, pl, ov, oa, sl)) : wpX_receivedOperand post (qd, ll, ln, rs, bu, cy, ex, oh, oc, sh, sc, op, x, y, z, rg, ce, ar, ps, on, ls, pl, ov, oa, sl) := by
  have eH : (nI (H % 4)).toNatClampNeg = H % 4 := nI_clamp (by omega)
  simp only [wpX_receivedOperand, hh, hc, eH, nI_pred]
  exact ⟨vp_in_nI (by omega) (by decide), nm_e ⟨da_n4, nm_r (da_rm1 H) (nm_e hp)⟩⟩
theorem da_xetf {post : SX → Prop} {qd ll ln bu cy ex oh oc sh sc : Int32} {op x y z rg ce ar ps on ls pl ov oa sl : Nat → Int32} {sd : Nat → Bool} {m i : Nat} (hi : i < 24) (hm : m < 256) (hsd : ∀ r, sd r = m.testBit r) (hok : da_ok op x y z i) (k : da_kT op x y z i) (h6 : ¬ op i = 6) (hn : da_nd op x sd i = false)
    (hp : post (qd, ll, ln, (nI m), bu, cy, ex, oh, oc, sh, sc, op, x, y, z, (upd rg (x i).toNatClampNeg (da_tv op y z i rg ce)), ce, ar, (upd ps 1 (nI (i + 1))), on, ls, pl, ov, oa, sl)) : wpX_executeTarget post (qd, ll, ln, (nI m), bu, cy, ex, oh, oc, sh, sc, op, x, y, z, rg, ce, ar, ps, on, ls, pl, ov, oa, sl) (nI i) := by
  have e : (nI i).toNatClampNeg = i := nI_clamp (by omega)
  have v : vp_in (nI i) 24 := vp_in_nI hi (by decide)
  simp only [wpX_executeTarget, e]
  refine ⟨v, da_xnd hi hm hsd hok ?_⟩
  rw [hn]
  refine br_t rfl (da_xcr hi hok k h6 ?_)
  simp only [wX_executeTarget_34, nI_1]
  exact ⟨da_inI (m := 8) (by decide) k.2.2.2.2.2.1, nm_e (nm_e hp)⟩
theorem da_xetn {post : SX → Prop} {qd ll ln bu cy ex oh oc sh sc : Int32} {op x y z rg ce ar ps on ls pl ov oa sl : Nat → Int32} {sd : Nat → Bool} {m i q H : Nat} (hi : i < 24) (hm : m < 256) (hsd : ∀ r, sd r = m.testBit r) (hok : da_ok op x y z i) (k : da_kT op x y z i) (hn : da_nd op x sd i = true)
    (hh : oh = nI (H % 4)) (hc : oc = nI (q + 1))
    (hp : post (qd, ll, ln, (nI m), bu, cy, ex, (nI ((H + 1) % 4)), (nI q), sh, sc, op, x, y, z, (upd rg (x i).toNatClampNeg (ov (H % 4))), ce, ar, (upd ps 1 (nI (i + 1))), on, ls, pl, ov, oa, sl)) : wpX_executeTarget post (qd, ll, ln, (nI m), bu, cy, ex, oh, oc, sh, sc, op, x, y, z, rg, ce, ar, ps, on, ls, pl, ov, oa, sl) (nI i) := by
  have e : (nI i).toNatClampNeg = i := nI_clamp (by omega)
  have v : vp_in (nI i) 24 := vp_in_nI hi (by decide)
  simp only [wpX_executeTarget, e]
  refine ⟨v, da_xnd hi hm hsd hok ?_⟩
  rw [hn]
  refine br_f da_n10 (da_xro hh hc ?_)
  simp only [wX_executeTarget_34, nI_1]
  exact ⟨da_inI (m := 8) (by decide) k.2.2.2.2.2.1, nm_e (nm_e hp)⟩

theorem da_xso2 {post : SX → Prop} {qd ll ln rs bu cy ex oh oc sh sc : Int32} {op x y z rg ce ar ps on ls pl ov oa sl : Nat → Int32} {H q : Nat} {v t : Int32} (hq : q < 100) (hh : oh = nI (H % 4)) (hc : oc = nI q)
    (hp : post (qd, ll, ln, rs, bu, cy, ex, oh, (nI (q + 1)), sh, sc, op, x, y, z, rg, ce, ar, ps, on, ls, pl, (upd ov ((H + q) % 4) v), (upd oa ((H + q) % 4) t), sl)) : wpX_sendOperand post (qd, ll, ln, rs, bu, cy, ex, oh, oc, sh, sc, op, x, y, z, rg, ce, ar, ps, on, ls, pl, ov, oa, sl) v t := by
  have eH : (nI ((H + q) % 4)).toNatClampNeg = (H + q) % 4 := nI_clamp (by omega)
  have v4 : vp_in (nI ((H + q) % 4)) 4 := vp_in_nI (by omega) (by decide)
  subst hh hc
  simp only [wpX_sendOperand, nI_1]
  refine ⟨da_n4, nm_r (da_rm4 H q hq) ?_⟩
  simp only [eH]
  exact ⟨v4, nm_e ⟨v4, nm_e (nm_e hp)⟩⟩
theorem da_xac {post : Int32 → Prop} {qd ll ln rs bu cy ex oh oc sh sc : Int32} {op x y z rg ce ar ps on ls pl ov oa sl : Nat → Int32} {i : Nat} (hi : i < 24) (hy : ∃ b : Nat, b < 8 ∧ y i = nI b) (hp : post (da_cl y z i ar)) : wpX_accessedCell post (qd, ll, ln, rs, bu, cy, ex, oh, oc, sh, sc, op, x, y, z, rg, ce, ar, ps, on, ls, pl, ov, oa, sl) (nI i) := by
  have e : (nI i).toNatClampNeg = i := nI_clamp (by omega)
  have v : vp_in (nI i) 24 := vp_in_nI hi (by decide)
  simp only [wpX_accessedCell, e]
  exact ⟨v, da_inI (m := 8) (by decide) hy, v, hp⟩
theorem da_xsp2 {post : Int32 → Prop} {qd ll ln rs bu cy ex oh oc sh sc : Int32} {op x y z rg ce ar ps on ls pl ov oa sl : Nat → Int32} {Hs N : Nat} {cl : Int32} (hN : N < 100) (hh : sh = nI (Hs % 4)) (hc : sc = nI N) : ∀ (q : List Int32) (i : Nat), i + q.length = N → da_AR sl (Hs + i) q →
    (cl ∈ q → post 1) → (¬ cl ∈ q → post 0) → wX_isStorePending_2 post cl qd ll ln rs bu cy ex oh oc sh sc op x y z rg ce ar ps on ls pl ov oa sl (q.length + 1) (nI i) := by
  subst hh hc
  intro q
  induction q with
  | nil =>
    intro i h1 h2 h3 h4
    rw [List.length_nil] at h1
    exact br_t (nI_le (by omega) (by omega)) (h4 (fun h => nomatch h))
  | cons v q ih =>
    intro i h1 h2 h3 h4
    rw [List.length_cons] at h1
    obtain ⟨a1, a2⟩ := h2
    have eH : (nI ((Hs + i) % 4)).toNatClampNeg = (Hs + i) % 4 := nI_clamp (by omega)
    refine br_f (nI_ge (by omega) (by omega)) ⟨da_n4, ?_⟩
    rw [da_rm4 Hs i (by omega), eH, a1]
    refine ⟨vp_in_nI (by omega) (by decide), ?_⟩
    by_cases c : v = cl
    · exact br_t c (h3 (by rw [c]; exact List.mem_cons_self))
    · refine br_f c (nm_r (nI_1 i) (ih (i + 1) (by omega) a2 (fun h => h3 (List.mem_cons_of_mem _ h)) (fun h => h4 (fun h' => ?_))))
      rcases List.mem_cons.mp h' with h'' | h''
      · exact c h''.symm
      · exact h h''
theorem da_xsp {post : Int32 → Prop} {qd ll ln rs bu cy ex oh oc sh sc : Int32} {op x y z rg ce ar ps on ls pl ov oa sl : Nat → Int32} {Hs : Nat} {cl : Int32} {q : List Int32} (hN : q.length < 100) (hh : sh = nI (Hs % 4)) (hc : sc = nI q.length) (hA : da_AR sl Hs q) (h1 : cl ∈ q → post 1) (h0 : ¬ cl ∈ q → post 0) :
    wpX_isStorePending post (qd, ll, ln, rs, bu, cy, ex, oh, oc, sh, sc, op, x, y, z, rg, ce, ar, ps, on, ls, pl, ov, oa, sl) cl :=
  ⟨q.length + 1, da_xsp2 hN hh hc q 0 (by omega) hA h1 h0⟩
end
section
/-! One cycle's first half: execute -/
def da_fr (op x y z : Nat → Int32) (sd : Nat → Bool) (i : Nat) : Prop := op i = 9 ∨ op i = 10 ∨ (da_kT op x y z i ∧ da_nd op x sd i = false)
theorem da_ls_ne (f : Nat → List Int32) {e a : Nat} (h : 1 ≤ (da_ls f (a - e) e).length) : e < a := by
  by_cases c : e < a
  · exact c
  · rw [show a - e = 0 by omega] at h
    exact absurd (show 1 ≤ 0 from h) (by decide)
theorem da_ls_00 (f : Nat → List Int32) {e a : Nat} (h : a ≤ e) : da_ls f (a - e) e = [] := by
  rw [show a - e = 0 by omega]; rfl
theorem da_e7 {i : Nat} {op : Nat → Int32} {k : Int32} (hi : i < 24) (h : op i = k) : op (nI i).toNatClampNeg = k := by
  rw [nI_clamp (by omega)]; exact h

theorem da_XE {post : SX → Prop} {op x y z : Nat → Int32} {n K m l : Nat} {tr : Nat → da_St} {sd : Nat → Bool} {dq e a c H : Nat} {As : List Nat} {B Hs : Nat} {bu ex oh oc sh sc : Int32} {rg ce ar ps on ls pl ov oa sl : Nat → Int32}
    (F : da_F op x y z n K m sd tr) (hd1 : 1 ≤ dq) (hd4 : dq ≤ 4) (hea : e ≤ a) (heK : e < K) (haK : a ≤ K) (hc : c < 1000000) (V : da_V op x y z sd tr dq e a c H As B Hs bu ex oh oc sh sc rg ce ar ps on ls pl ov oa sl)
    (hmv : ∀ (H' : Nat) (As' : List Nat) (Hs' : Nat) (ex' oh' oc' sh' sc' : Int32) (rg' ce' ps' on' ls' pl' : Nat → Int32),
      da_V op x y z sd tr dq (e + 1) a c H' As' B Hs' bu ex' oh' oc' sh' sc' rg' ce' ar ps' on' ls' pl' ov oa sl →
      (e < a ∨ (e = a ∧ da_fr op x y z sd (tr a).1)) →
      post ((nI dq), (nI l), (nI n), (nI m), bu, (nI c), ex', oh', oc', sh', sc', op, x, y, z, rg', ce', ar, ps', on', ls', pl', ov, oa, sl))
    (hst : (e = a ∨ ∃ t As', As = t :: As' ∧ c < t) → post ((nI dq), (nI l), (nI n), (nI m), bu, (nI c), ex, oh, oc, sh, sc, op, x, y, z, rg, ce, ar, ps, on, ls, pl, ov, oa, sl)) :
    wpX_stepExecute post ((nI dq), (nI l), (nI n), (nI m), bu, (nI c), ex, oh, oc, sh, sc, op, x, y, z, rg, ce, ar, ps, on, ls, pl, ov, oa, sl) := by
  have F' := F
  have V' := V
  obtain ⟨G, ht, hlt, hKn, hI, hC, hm, hsd, hM⟩ := F'
  obtain ⟨v1, v2, v3, ⟨p1, p2, p3⟩, v5, v6, v7, v8⟩ := V'
  have hpc := hlt e heK
  have hn24 := G.1
  have h24 : (tr e).1 < 24 := by omega
  have hok := G.2.1 _ hpc
  have vpc : vp_in (nI (tr e).1) 24 := vp_in_nI h24 (by decide)
  have hlen := G.2.2.1 (tr e).1 (by omega)
  have hlen' := G.2.2.1 ((tr e).1 + 1) (by omega)
  have hex : ex + 1 = nI (e + 1) := by rw [v1, nI_1]
  unfold wpX_stepExecute
  refine nm_r p1 (br_f (nI_ge hpc (by omega)) ?_)
  rcases da_kind op x y z hok with k | k | k | k | k
  · -- a target
    have k' := k
    obtain ⟨k6, h7, h8, h9, h10, hx, hy, kk⟩ := k'
    have hk7 : op (tr e).1 < 7 := Int32.lt_of_le_of_lt k6 (by decide)
    by_cases hn : da_nd op x sd (tr e).1 = true
    · by_cases c1 : e < a
      · obtain ⟨t, As', s1, s2, s4, s5, s6⟩ := da_E_tn op x y z F heK c1 k hn V
        have htc : t ≤ c + 6 := v7.2.2.2.2.2.2.1 t (by rw [s1]; exact List.mem_cons_self)
        refine da_xryt (q := As'.length) (t := t) (c := c) (H := H) h24 hm hsd hok h7 hn (by omega) s4 v7.1 s2 (by omega) rfl (by omega) (fun hlt => ?_) (fun hle => ?_)
        · exact br_t rfl (hst (Or.inr ⟨t, As', s1, hlt⟩))
        · refine br_f da_n10 (nm_r hex ⟨vpc, nm_r (da_e7 h24 rfl) (br_t hk7 ?_)⟩)
          exact da_xetn h24 hm hsd hok k hn v7.1 s4 (hmv _ _ _ _ _ _ _ _ _ _ _ _ _ _ (s6 hle) (Or.inl c1))
      · have hoc : oc = 0 := by rw [v7.2.1, da_ls_00 _ (by omega)]; rfl
        exact da_xry0 h24 hm hsd hok h7 hn hoc (br_t rfl (hst (Or.inl (by omega))))
    · have hn' := Bool.eq_false_iff.mpr hn
      have h6 : ¬ op (tr e).1 = 6 := fun h => hn (da_nd_6 op x h)
      refine da_xryf h24 hm hsd hok h7 hn' (br_f da_n10 (nm_r hex ⟨vpc, nm_r (da_e7 h24 rfl) (br_t hk7 ?_)⟩))
      refine da_xetf h24 hm hsd hok k h6 hn' (hmv _ _ _ _ _ _ _ _ _ _ _ _ _ _ (da_E_tf op x y z F heK k hn' V) ?_)
      by_cases c1 : e < a
      · exact Or.inl c1
      · have : e = a := by omega
        exact Or.inr ⟨this, by rw [← this]; exact Or.inr (Or.inr ⟨k, hn'⟩)⟩
  · -- STORE
    obtain ⟨h7, hx, hy⟩ := k
    by_cases c1 : e < a
    · obtain ⟨q, s1, s2, s3, s4⟩ := da_E_7 op x y z F heK c1 h7 V
      refine da_xry7 (q := q + 1) h24 h7 (by omega) s2 (fun h => by omega) (fun _ => ?_)
      refine br_f da_n10 (nm_r hex ⟨vpc, nm_r (da_e7 h24 h7) (br_f (by decide) (br_f (by decide) (br_t rfl ?_)))⟩)
      exact da_xes h24 hx (da_cl_in y z (tr e).1 rg) s1 v8.1 s2 (hmv _ _ _ _ _ _ _ _ _ _ _ _ _ _ s4 (Or.inl c1))
    · have hsc : sc = nI 0 := by rw [v8.2.1, da_ls_00 _ (by omega)]; rfl
      exact da_xry7 (q := 0) h24 h7 (by omega) hsc (fun _ => br_t rfl (hst (Or.inl (by omega)))) (fun h => by omega)
  · -- SKIPZ
    obtain ⟨h8, hx, b, hb1, hb8, hy⟩ := k
    have h7 : ¬ op (tr e).1 = 7 := by rw [h8]; decide
    have hn := da_nd_8 op x (sd := sd) h8
    by_cases c1 : e < a
    · obtain ⟨t, As', s1, s2, s3, s4, s5, s6⟩ := da_E_8 op x y z F heK c1 h8 V
      have htc : t ≤ c + 6 := v7.2.2.2.2.2.2.1 t (by rw [s1]; exact List.mem_cons_self)
      refine da_xryt (q := As'.length) (t := t) (c := c) (H := H) h24 hm hsd hok h7 hn (by omega) s4 v7.1 s2 (by omega) rfl (by omega) (fun hlt => ?_) (fun hle => ?_)
      · exact br_t rfl (hst (Or.inr ⟨t, As', s1, hlt⟩))
      · refine br_f da_n10 (nm_r hex ⟨vpc, nm_r (da_e7 h24 h8) (br_f (by decide) (br_f (by decide) (br_f (by decide) (br_t rfl ?_))))⟩)
        refine da_xro v7.1 s4 (nm_r ?_ (hmv _ _ _ _ _ _ _ _ _ _ _ _ _ _ (s6 hle) (Or.inl c1)))
        have e2 : (tr (e + 1)).1 = _ := congrArg Prod.fst ((ht e).trans (da_st_8 op x y z h8))
        rw [e2, s3, v2, hy]
        dsimp only
        by_cases cz : (tr e).2.1 (x (tr e).1).toNatClampNeg = 0
        · rw [if_pos cz, if_pos cz, nI_1, nI_add, nI_clamp (by omega)]
        · rw [if_neg cz, if_neg cz, nI_1, Int32.add_zero]
    · have hoc : oc = 0 := by rw [v7.2.1, da_ls_00 _ (by omega)]; rfl
      exact da_xry0 h24 hm hsd hok h7 hn hoc (br_t rfl (hst (Or.inl (by omega))))
  · -- REPEAT
    obtain ⟨h9, q, hq1, hq6, hx⟩ := k
    have h7 : ¬ op (tr e).1 = 7 := by rw [h9]; decide
    have hn : da_nd op x sd (tr e).1 = false := da_nd_f op x (by rw [h9]; decide) (by rw [h9]; decide)
    have hd : (da_enc op (tr e).1).length < 2 := by
      rw [da_enc_9 op h9, List.length_cons] at hlen'
      omega
    refine da_xryf h24 hm hsd hok h7 hn (br_f da_n10 (nm_r hex ⟨vpc, nm_r (da_e7 h24 h9) (br_f (by decide) (br_f (by decide) (br_f (by decide) (br_f (by decide) (br_t rfl ?_)))))⟩))
    refine da_xpr (h := 1) (by decide) h24 hd p2 (hmv _ _ _ _ _ _ _ _ _ _ _ _ _ _ (da_E_9 op x y z F heK haK h9 hd V) ?_)
    by_cases c1 : e < a
    · exact Or.inl c1
    · have : e = a := by omega
      exact Or.inr ⟨this, by rw [← this]; exact Or.inl h9⟩
  · -- END
    have h7 : ¬ op (tr e).1 = 7 := by rw [k]; decide
    have hn : da_nd op x sd (tr e).1 = false := da_nd_f op x (by rw [k]; decide) (by rw [k]; decide)
    cases hs : da_enc op (tr e).1 with
    | nil => exact absurd hs (G.2.2.2.2.1 _ hpc k)
    | cons b st =>
      obtain ⟨p, hp1, hp6, hpL⟩ := (hI e (by omega)).2 b (by rw [hs]; exact List.mem_cons_self)
      rw [hs, List.length_cons] at p2 hlen
      rw [hs] at p3
      obtain ⟨q1, q2, q3⟩ := p3
      have hfr : e < a ∨ (e = a ∧ da_fr op x y z sd (tr a).1) := by
        by_cases c1 : e < a
        · exact Or.inl c1
        · have : e = a := by omega
          exact Or.inr ⟨this, by rw [← this]; exact Or.inr (Or.inl k)⟩
      refine da_xryf h24 hm hsd hok h7 hn (br_f da_n10 (nm_r hex ⟨vpc, nm_r (da_e7 h24 k) (br_f (by decide) (br_f (by decide) (br_f (by decide) (br_f (by decide) (br_f (by decide) (br_t rfl ?_))))))⟩))
      by_cases cp : 2 ≤ p
      · exact da_xpeb (h := 1) (by decide) h24 (by omega) p2 q1 (q2.trans hpL) cp hp6 (hmv _ _ _ _ _ _ _ _ _ _ _ _ _ _ (da_E_10b op x y z F heK haK k hs hpL hp6 cp V) hfr)
      · exact da_xpep (h := 1) (by decide) h24 (by omega) p2 (q2.trans hpL) (by omega) (hmv _ _ _ _ _ _ _ _ _ _ _ _ _ _ (da_E_10p op x y z F heK haK k hs hpL (by omega) V) hfr)
end
section
/-! One cycle's second half: access -/
theorem da_xlo {post : SX → Prop} {ln bu ex oh oc sh sc : Int32} {op x y z rg ce ar ps on ls pl ov oa sl : Nat → Int32} {i m c l q Hs H dq : Nat} {C : List Int32} (hi : i < 24) (hm : m < 256) (hx : ∃ a : Nat, a < 8 ∧ x i = nI a) (hy : ∃ b : Nat, b < 8 ∧ y i = nI b)
    (hq : q < 100) (hdq : dq < 100) (hcl : C.length < 100) (hsh : sh = nI (Hs % 4)) (hsc : sc = nI C.length) (hA : da_AR sl Hs C) (hoh : oh = nI (H % 4)) (hoc : oc = nI q)
    (h0 : (dq ≤ q ∨ da_cl y z i ar ∈ C) → post ((nI dq), (nI l), ln, (nI m), bu, (nI c), ex, oh, oc, sh, sc, op, x, y, z, rg, ce, ar, ps, on, ls, pl, ov, oa, sl))
    (hn : q < dq → ¬ da_cl y z i ar ∈ C → m.testBit (x i).toNatClampNeg = false → post ((nI dq), (nI l), ln, (nI m), bu, (nI c), ex, oh, (nI (q + 1)), sh, sc, op, x, y, z, rg, ce, ar, (upd ps 0 (nI (i + 1))), on, ls, pl, (upd ov ((H + q) % 4) (ce (da_cl y z i ar).toNatClampNeg)), (upd oa ((H + q) % 4) (nI (c + l))), sl))
    (hs : q < dq → ¬ da_cl y z i ar ∈ C → m.testBit (x i).toNatClampNeg = true → post ((nI dq), (nI l), ln, (nI m), (nI (c + l)), (nI c), ex, oh, (nI (q + 1)), sh, sc, op, x, y, z, rg, ce, (upd ar (x i).toNatClampNeg (ce (da_cl y z i ar).toNatClampNeg)), (upd ps 0 (nI (i + 1))), on, ls, pl, (upd ov ((H + q) % 4) (ce (da_cl y z i ar).toNatClampNeg)), (upd oa ((H + q) % 4) (nI (c + l))), sl)) :
    wpX_accessLoad post ((nI dq), (nI l), ln, (nI m), bu, (nI c), ex, oh, oc, sh, sc, op, x, y, z, rg, ce, ar, ps, on, ls, pl, ov, oa, sl) (nI i) := by
  have e : (nI i).toNatClampNeg = i := nI_clamp (by omega)
  have v : vp_in (nI i) 24 := vp_in_nI hi (by decide)
  have vx := da_inI (m := 8) (by decide) hx
  have vc := da_inI (m := 16) (by decide) (da_cl_in y z i ar)
  unfold wpX_accessLoad
  refine da_xac hi hy ?_
  by_cases c1 : dq ≤ q
  · exact br_t (by rw [hoc]; exact nI_le c1 (by omega)) (h0 (Or.inl c1))
  · refine br_f (by rw [hoc]; exact nI_ge (by omega) (by omega)) (da_xsp hcl hsh hsc hA (fun hin => ?_) (fun hin => ?_))
    · exact br_f da_n10 (h0 (Or.inr hin))
    · refine br_t rfl (nm_r (nI_add c l) ⟨vc, da_xso2 hq hoh hoc ?_⟩)
      dsimp only
      rw [e]
      refine ⟨v, ?_⟩
      by_cases hb : m.testBit (x i).toNatClampNeg = true
      · refine da_xin1 hm hx hb (br_f da_n10 ⟨v, vc, vx, nm_e ?_⟩)
        simp only [wX_accessLoad_85, nI_1]
        exact nm_e (hs (by omega) hin hb)
      · have hb' := Bool.eq_false_iff.mpr hb
        refine da_xin0 hm hx hb' (br_t rfl ?_)
        simp only [wX_accessLoad_85, nI_1]
        exact nm_e (hn (by omega) hin hb')
theorem da_xst {post : SX → Prop} {ll ln rs bu cy ex oh oc sh sc : Int32} {op x y z rg ce ar ps on ls pl ov oa sl : Nat → Int32} {i q Hs dq : Nat} (hi : i < 24) (hy : ∃ b : Nat, b < 8 ∧ y i = nI b)
    (hq : q < 100) (hdq : dq < 100) (hsh : sh = nI (Hs % 4)) (hsc : sc = nI q)
    (h0 : dq ≤ q → post ((nI dq), ll, ln, rs, bu, cy, ex, oh, oc, sh, sc, op, x, y, z, rg, ce, ar, ps, on, ls, pl, ov, oa, sl))
    (h1 : q < dq → post ((nI dq), ll, ln, rs, bu, cy, ex, oh, oc, sh, (nI (q + 1)), op, x, y, z, rg, ce, ar, (upd ps 0 (nI (i + 1))), on, ls, pl, ov, oa, (upd sl ((Hs + q) % 4) (da_cl y z i ar)))) :
    wpX_accessStore post ((nI dq), ll, ln, rs, bu, cy, ex, oh, oc, sh, sc, op, x, y, z, rg, ce, ar, ps, on, ls, pl, ov, oa, sl) (nI i) := by
  have eH : (nI ((Hs + q) % 4)).toNatClampNeg = (Hs + q) % 4 := nI_clamp (by omega)
  have v4 : vp_in (nI ((Hs + q) % 4)) 4 := vp_in_nI (by omega) (by decide)
  subst hsh hsc
  by_cases c1 : dq ≤ q
  · exact br_f (nI_nlt c1 (by omega)) (h0 c1)
  · refine br_t (nI_lt (by omega) (by omega)) ⟨da_n4, nm_r (da_rm4 Hs q hq) (da_xac hi hy ⟨v4, nm_r (congrArg (fun t => upd sl t (da_cl y z i ar)) eH) (nm_r (nI_1 q) (nm_r (congrArg (fun t => upd ps 0 t) (nI_1 i)) (h1 (by omega))))⟩)⟩
theorem da_xsk {post : SX → Prop} {ll ln rs bu cy ex oh oc sh sc : Int32} {op x y z rg ce ar ps on ls pl ov oa sl : Nat → Int32} {i q H dq b : Nat} (hi : i < 24) (hx : ∃ a : Nat, a < 8 ∧ x i = nI a) (hy : y i = nI b)
    (hq : q < 100) (hdq : dq < 100) (hoh : oh = nI (H % 4)) (hoc : oc = nI q)
    (h0 : dq ≤ q → post ((nI dq), ll, ln, rs, bu, cy, ex, oh, oc, sh, sc, op, x, y, z, rg, ce, ar, ps, on, ls, pl, ov, oa, sl))
    (h1 : q < dq → post ((nI dq), ll, ln, rs, bu, cy, ex, oh, (nI (q + 1)), sh, sc, op, x, y, z, rg, ce, ar, (upd ps 0 (nI (if ar (x i).toNatClampNeg = 0 then i + 1 + b else i + 1))), on, ls, pl, (upd ov ((H + q) % 4) (if ar (x i).toNatClampNeg = 0 then y i else 0)), (upd oa ((H + q) % 4) cy), sl)) :
    wpX_accessSkip post ((nI dq), ll, ln, rs, bu, cy, ex, oh, oc, sh, sc, op, x, y, z, rg, ce, ar, ps, on, ls, pl, ov, oa, sl) (nI i) := by
  have e : (nI i).toNatClampNeg = i := nI_clamp (by omega)
  have v : vp_in (nI i) 24 := vp_in_nI hi (by decide)
  have vx := da_inI (m := 8) (by decide) hx
  simp only [wpX_accessSkip, e]
  by_cases c1 : dq ≤ q
  · exact br_f (by rw [hoc]; exact nI_nlt c1 (by omega)) (h0 c1)
  · have hp := h1 (by omega)
    refine br_t (by rw [hoc]; exact nI_lt (by omega) (by omega)) ⟨v, vx, ?_⟩
    by_cases cz : ar (x i).toNatClampNeg = 0
    · rw [if_pos cz, if_pos cz] at hp
      refine br_t cz ⟨v, ?_⟩
      unfold wX_accessSkip_36
      refine da_xso2 hq hoh hoc (nm_r ?_ hp)
      rw [hy, nI_1, nI_add]
    · rw [if_neg cz, if_neg cz] at hp
      refine br_f cz ?_
      unfold wX_accessSkip_36
      refine da_xso2 hq hoh hoc (nm_r ?_ hp)
      rw [nI_1, Int32.add_zero]
theorem da_xco {post : SX → Prop} {ll ln bu cy ex oh oc sh sc : Int32} {op x y z rg ce ar ps on ls pl ov oa sl : Nat → Int32} {i m q H dq : Nat} (hi : i < 24) (hm : m < 256) (hok : da_ok op x y z i) (k : da_kT op x y z i) (h6 : ¬ op i = 6)
    (hq : q < 100) (hdq : dq < 100) (hoh : oh = nI (H % 4)) (hoc : oc = nI q)
    (hn : m.testBit (x i).toNatClampNeg = false → post ((nI dq), ll, ln, (nI m), bu, cy, ex, oh, oc, sh, sc, op, x, y, z, rg, ce, ar, (upd ps 0 (nI (i + 1))), on, ls, pl, ov, oa, sl))
    (h0 : m.testBit (x i).toNatClampNeg = true → dq ≤ q → post ((nI dq), ll, ln, (nI m), bu, cy, ex, oh, oc, sh, sc, op, x, y, z, rg, ce, ar, ps, on, ls, pl, ov, oa, sl))
    (h1 : m.testBit (x i).toNatClampNeg = true → q < dq → post ((nI dq), ll, ln, (nI m), bu, cy, ex, oh, (nI (q + 1)), sh, sc, op, x, y, z, rg, ce, (upd ar (x i).toNatClampNeg (da_tv op y z i ar ce)), (upd ps 0 (nI (i + 1))), on, ls, pl, (upd ov ((H + q) % 4) (da_tv op y z i ar ce)), (upd oa ((H + q) % 4) cy), sl)) :
    wpX_accessCompute post ((nI dq), ll, ln, (nI m), bu, cy, ex, oh, oc, sh, sc, op, x, y, z, rg, ce, ar, ps, on, ls, pl, ov, oa, sl) (nI i) := by
  have e : (nI i).toNatClampNeg = i := nI_clamp (by omega)
  have v : vp_in (nI i) 24 := vp_in_nI hi (by decide)
  have hx := k.2.2.2.2.2.1
  have vx := da_inI (m := 8) (by decide) hx
  simp only [wpX_accessCompute, e]
  refine ⟨v, ?_⟩
  by_cases hb : m.testBit (x i).toNatClampNeg = true
  · refine da_xin1 hm hx hb (br_f da_n10 ?_)
    by_cases c1 : dq ≤ q
    · exact br_f (by rw [hoc]; exact nI_nlt c1 (by omega)) (h0 hb c1)
    · refine br_t (by rw [hoc]; exact nI_lt (by omega) (by omega)) (da_xca hi hok k h6 ⟨v, vx, nm_e (da_xso2 hq hoh hoc ?_)⟩)
      simp only [wX_accessCompute_59, nI_1]
      exact nm_e (h1 hb (by omega))
  · have hb' := Bool.eq_false_iff.mpr hb
    refine da_xin0 hm hx hb' (br_t rfl ?_)
    simp only [wX_accessCompute_59, nI_1]
    exact nm_e (hn hb')

theorem da_XA {post : SX → Prop} {op x y z : Nat → Int32} {n K m l : Nat} {tr : Nat → da_St} {sd : Nat → Bool} {dq e a c H : Nat} {As : List Nat} {B Hs : Nat} {bu ex oh oc sh sc : Int32} {rg ce ar ps on ls pl ov oa sl : Nat → Int32}
    (F : da_F op x y z n K m sd tr) (hd1 : 1 ≤ dq) (hd4 : dq ≤ 4) (hl6 : l ≤ 6) (hmid : e ≤ a ∨ (e = a + 1 ∧ da_fr op x y z sd (tr a).1)) (heK : e ≤ K) (haK : a ≤ K) (hc : c < 1000000) (V : da_V op x y z sd tr dq e a c H As B Hs bu ex oh oc sh sc rg ce ar ps on ls pl ov oa sl)
    (hmv : ∀ (As' : List Nat) (B' : Nat) (bu' oc' sc' : Int32) (ar' ps' on' ls' pl' ov' oa' sl' : Nat → Int32),
      da_V op x y z sd tr dq e (a + 1) c H As' B' Hs bu' ex oh oc' sh sc' rg ce ar' ps' on' ls' pl' ov' oa' sl' → a < K →
      post ((nI dq), (nI l), (nI n), (nI m), bu', (nI c), ex, oh, oc', sh, sc', op, x, y, z, rg, ce, ar', ps', on', ls', pl', ov', oa', sl'))
    (hst : e ≤ a → (e < a ∨ a = K) → post ((nI dq), (nI l), (nI n), (nI m), bu, (nI c), ex, oh, oc, sh, sc, op, x, y, z, rg, ce, ar, ps, on, ls, pl, ov, oa, sl)) :
    wpX_stepAccess post ((nI dq), (nI l), (nI n), (nI m), bu, (nI c), ex, oh, oc, sh, sc, op, x, y, z, rg, ce, ar, ps, on, ls, pl, ov, oa, sl) := by
  have F' := F
  have V' := V
  obtain ⟨G, ht, hlt, hKn, hI, hC, hm, hsd, hM⟩ := F'
  obtain ⟨v1, v2, v3, v4, ⟨p1, p2, p3⟩, v6, v7, v8⟩ := V'
  have hn24 := G.1
  obtain ⟨i1, i2, i3, i4, i5, i6, i7, i8, i9, i10⟩ := v7
  obtain ⟨j1, j2, j3, j4⟩ := v8
  unfold wpX_stepAccess
  refine nm_r p1 ?_
  by_cases caK : a = K
  · have hpc : (tr a).1 = n := by rw [caK]; exact hKn
    rw [hpc]
    refine br_t (nI_le (Nat.le_refl _) (by omega)) (hst ?_ (Or.inr caK))
    rcases hmid with h | h
    · exact h
    · omega
  · have ha : a < K := by omega
    have hpc := hlt a ha
    have h24 : (tr a).1 < 24 := by omega
    have hok := G.2.1 _ hpc
    have vpc : vp_in (nI (tr a).1) 24 := vp_in_nI h24 (by decide)
    have hlen := G.2.2.1 (tr a).1 (by omega)
    have hlen' := G.2.2.1 ((tr a).1 + 1) (by omega)
    refine br_f (nI_ge hpc (by omega)) ?_
    by_cases cB : B ≤ c
    · refine br_t (by rw [i8]; exact nI_le cB (by omega)) ?_
      have hQ : dq ≤ (da_ls (da_fo op x y z sd tr) (a - e) e).length → e < a := fun h => da_ls_ne (da_fo op x y z sd tr) (by omega)
      rcases da_kind op x y z hok with k | k | k | k | k
      · -- a target
        have k' := k
        obtain ⟨k6, h7, h8, h9, h10, hx, hy, kk⟩ := k'
        by_cases h6 : op (tr a).1 = 6
        · have hea : e ≤ a := by
            rcases hmid with h | ⟨h, hf⟩
            · exact h
            · rcases hf with f | f | ⟨_, f⟩
              · exact absurd f h9
              · exact absurd f h10
              · rw [da_nd_6 op x h6] at f; exact absurd f (by decide)
          refine ⟨vpc, nm_r (da_e7 h24 h6) (br_f (by decide) (br_f (by decide) (br_t rfl ?_)))⟩
          refine da_xlo h24 hm hx hy (by omega) (by omega) (by omega) j1 j2 j4 i1 i2 (fun h => ?_) (fun hq hin hb => ?_) (fun hq hin hb => ?_)
          · refine hst hea (Or.inl ?_)
            rcases h with h | h
            · exact hQ h
            · exact da_ls_ne (da_fc op y z tr) (List.length_pos_of_mem h)
          · exact hmv _ _ _ _ _ _ _ _ _ _ _ _ _ (da_A_6n op x y z F ha hea hd4 h6 hl6 i2 hq cB hin (by rw [hsd]; exact hb) V) ha
          · exact hmv _ _ _ _ _ _ _ _ _ _ _ _ _ (da_A_6s op x y z F ha hea hd4 h6 hl6 i2 hq hin (by rw [hsd]; exact hb) V) ha
        · have hk6 : op (tr a).1 < 6 := by
            rcases kk with h | h | ⟨h, _⟩
            · rw [h]; decide
            · exact absurd h h6
            · exact Int32.lt_of_le_of_lt h (by decide)
          refine ⟨vpc, nm_r (da_e7 h24 rfl) (br_t hk6 ?_)⟩
          have hea : m.testBit (x (tr a).1).toNatClampNeg = true → e ≤ a := by
            intro hb
            rcases hmid with h | ⟨h, hf⟩
            · exact h
            · rcases hf with f | f | ⟨_, f⟩
              · exact absurd f h9
              · exact absurd f h10
              · rw [da_nd_t op x k6 h6, hsd, hb] at f; exact absurd f (by decide)
          refine da_xco h24 hm hok k h6 (by omega) (by omega) i1 i2 (fun hb => ?_) (fun hb hq => ?_) (fun hb hq => ?_)
          · exact hmv _ _ _ _ _ _ _ _ _ _ _ _ _ (da_A_tf op x y z F ha k h6 (by rw [hsd]; exact hb) V) ha
          · exact hst (hea hb) (Or.inl (hQ hq))
          · exact hmv _ _ _ _ _ _ _ _ _ _ _ _ _ (da_A_tn op x y z F ha (hea hb) hd4 k h6 (by rw [hsd]; exact hb) i2 hq cB V) ha
      · -- STORE
        obtain ⟨h7, hx, hy⟩ := k
        have hea : e ≤ a := by
          rcases hmid with h | ⟨h, hf⟩
          · exact h
          · rcases hf with f | f | ⟨f, _⟩
            · rw [h7] at f; exact absurd f (by decide)
            · rw [h7] at f; exact absurd f (by decide)
            · exact absurd h7 f.2.1
        refine ⟨vpc, nm_r (da_e7 h24 h7) (br_f (by decide) (br_f (by decide) (br_f (by decide) (br_t rfl ?_))))⟩
        refine da_xst h24 hy (by omega) (by omega) j1 j2 (fun hq => ?_) (fun hq => ?_)
        · exact hst hea (Or.inl (da_ls_ne (da_fc op y z tr) (by omega)))
        · exact hmv _ _ _ _ _ _ _ _ _ _ _ _ _ (da_A_7 op x y z F ha hea hd4 h7 j2 hq V) ha
      · -- SKIPZ
        obtain ⟨h8, hx, b, hb1, hb8, hy⟩ := k
        have hea : e ≤ a := by
          rcases hmid with h | ⟨h, hf⟩
          · exact h
          · rcases hf with f | f | ⟨f, _⟩
            · rw [h8] at f; exact absurd f (by decide)
            · rw [h8] at f; exact absurd f (by decide)
            · exact absurd h8 f.2.2.1
        refine ⟨vpc, nm_r (da_e7 h24 h8) (br_f (by decide) (br_f (by decide) (br_f (by decide) (br_f (by decide) (br_t rfl ?_)))))⟩
        refine da_xsk h24 hx hy (by omega) (by omega) i1 i2 (fun hq => ?_) (fun hq => ?_)
        · exact hst hea (Or.inl (hQ hq))
        · obtain ⟨r1, r2⟩ := da_A_8 op x y z F ha hea hd4 h8 i2 hq cB V
          have e2 : (tr (a + 1)).1 = if ar (x (tr a).1).toNatClampNeg = 0 then (tr a).1 + 1 + b else (tr a).1 + 1 := by
            have e3 : (tr (a + 1)).1 = _ := congrArg Prod.fst ((ht a).trans (da_st_8 op x y z h8))
            rw [e3, r1, hy, nI_clamp (by omega)]
          rw [← e2]
          exact hmv _ _ _ _ _ _ _ _ _ _ _ _ _ r2 ha
      · -- REPEAT
        obtain ⟨h9, q, hq1, hq6, hx⟩ := k
        have hd : (da_enc op (tr a).1).length < 2 := by
          rw [da_enc_9 op h9, List.length_cons] at hlen'
          omega
        refine ⟨vpc, nm_r (da_e7 h24 h9) (br_f (by decide) (br_f (by decide) (br_f (by decide) (br_f (by decide) (br_f (by decide) (br_t rfl ?_))))))⟩
        exact da_xpr (h := 0) (by decide) h24 hd p2 (hmv _ _ _ _ _ _ _ _ _ _ _ _ _ (da_A_9 op x y z F ha heK h9 hd V) ha)
      · -- END
        cases hs : da_enc op (tr a).1 with
        | nil => exact absurd hs (G.2.2.2.2.1 _ hpc k)
        | cons b st =>
          obtain ⟨p, hp1, hp6, hpL⟩ := (hI a (by omega)).2 b (by rw [hs]; exact List.mem_cons_self)
          rw [hs, List.length_cons] at p2 hlen
          rw [hs] at p3
          obtain ⟨q1, q2, q3⟩ := p3
          refine ⟨vpc, nm_r (da_e7 h24 k) (br_f (by decide) (br_f (by decide) (br_f (by decide) (br_f (by decide) (br_f (by decide) (br_f (by decide) (br_t rfl ?_)))))))⟩
          by_cases cp : 2 ≤ p
          · exact da_xpeb (h := 0) (by decide) h24 (by omega) p2 q1 (q2.trans hpL) cp hp6 (hmv _ _ _ _ _ _ _ _ _ _ _ _ _ (da_A_10b op x y z F ha heK k hs hpL hp6 cp V) ha)
          · exact da_xpep (h := 0) (by decide) h24 (by omega) p2 (q2.trans hpL) (by omega) (hmv _ _ _ _ _ _ _ _ _ _ _ _ _ (da_A_10p op x y z F ha heK k hs hpL (by omega) V) ha)
    · refine br_f (by rw [i8]; exact nI_ge (by omega) (by omega)) ?_
      obtain ⟨l', hl'⟩ := i10 (by omega)
      have hne : e < a := by
        refine da_ls_ne (da_fo op x y z sd tr) ?_
        rw [← i5, hl', List.length_append, List.length_singleton]; omega
      exact hst (by omega) (Or.inl hne)
end
section
/-! run -/
theorem da_c0 : (0 : Int32).toNatClampNeg = 0 := by decide
theorem da_c1 : (1 : Int32).toNatClampNeg = 1 := by decide
theorem da_xsr36 {post : SX → Prop} {qd ll ln rs bu cy ex oh oc sh sc : Int32} {op x y z rg ce ar ps on ls pl ov oa sl : Nat → Int32}
    (hp : post (qd, ll, ln, rs, 0, cy, 0, 0, 0, 0, 0, op, x, y, z, rg, ce, ar, (upd (upd ps 0 0) 1 0), (upd (upd on 0 0) 1 0), ls, pl, ov, oa, sl)) :
    wX_startRun_36 post qd ll ln rs bu cy ex oh oc sh sc 3 0 op x y z rg ce ar ps on ls pl ov oa sl := by
  have v0 : vp_in (0 : Int32) 2 := vp_in_nI (n := 0) (by decide) (by decide)
  have v1 : vp_in (1 : Int32) 2 := vp_in_nI (n := 1) (by decide) (by decide)
  exact br_f (by decide) ⟨v0, nm_r (congrArg (fun t => upd ps t 0) da_c0) ⟨v0, nm_r (congrArg (fun t => upd on t 0) da_c0) (nm_r (e' := 1) (by decide)
    (br_f (by decide) ⟨v1, nm_r (congrArg (fun t => upd (upd ps 0 0) t 0) da_c1) ⟨v1, nm_r (congrArg (fun t => upd (upd on 0 0) t 0) da_c1) (nm_r (e' := 2) (by decide) (br_t (by decide) hp))⟩⟩))⟩⟩
theorem da_xsr10 {post : SX → Prop} {qd ll ln rs bu cy ex oh oc sh sc : Int32} {op x y z rg ce ps on ls pl ov oa sl : Nat → Int32}
    (hp : ∀ g : Nat → Int32, (∀ r, r < 8 → g r = rg r) → post (qd, ll, ln, rs, 0, cy, 0, 0, 0, 0, 0, op, x, y, z, rg, ce, g, (upd (upd ps 0 0) 1 0), (upd (upd on 0 0) 1 0), ls, pl, ov, oa, sl)) :
    ∀ (d i : Nat) (g : Nat → Int32), i + d = 8 → (∀ r, r < i → g r = rg r) →
    wX_startRun_10 post qd ll ln rs bu cy ex oh oc sh sc (d + 1) (nI i) op x y z rg ce g ps on ls pl ov oa sl := by
  intro d
  induction d with
  | zero =>
    intro i g h hg
    exact br_t (nI_le (a := 8) (by omega) (by omega)) ⟨3, da_xsr36 (hp g (fun r hr => hg r (by omega)))⟩
  | succ d ih =>
    intro i g h hg
    have v : vp_in (nI i) 8 := vp_in_nI (by omega) (by decide)
    have e : (nI i).toNatClampNeg = i := nI_clamp (by omega)
    refine br_f (nI_ge (b := 8) (by omega) (by decide)) ⟨v, v, nm_r (congrArg (fun t => upd g t (rg t)) e) (nm_r (nI_1 i) (ih (i + 1) _ (by omega) (fun r hr => ?_)))⟩
    by_cases c : r = i
    · rw [c]; exact pk_us
    · exact (pk_un c).trans (hg r (by omega))
theorem da_xstart {post : SX → Prop} {qd ll rs bu cy ex oh oc sh sc : Int32} {op x y z rg ce ar ps on ls pl ov oa sl : Nat → Int32} {n : Nat} (hn : n ≤ 24) (hok : ∀ i, i < n → da_ok op x y z i)
    (hp : ∀ g : Nat → Int32, (∀ r, r < 8 → g r = rg r) → post (qd, ll, (nI n), (nI (da_X op x y z n)), 0, cy, 0, 0, 0, 0, 0, op, x, y, z, rg, ce, g, (upd (upd ps 0 0) 1 0), (upd (upd on 0 0) 1 0), ls, pl, ov, oa, sl)) :
    wpX_startRun post (qd, ll, (nI n), rs, bu, cy, ex, oh, oc, sh, sc, op, x, y, z, rg, ce, ar, ps, on, ls, pl, ov, oa, sl) := by
  unfold wpX_startRun
  exact da_xside hn hok ⟨9, da_xsr10 hp 8 0 ar (by omega) (fun r hr => absurd hr (Nat.not_lt_zero r))⟩
theorem da_xir {post : Int32 → Prop} {qd ll rs bu cy ex oh oc sh sc : Int32} {op x y z rg ce ar ps on ls pl ov oa sl : Nat → Int32} {n pa pe : Nat} (hn : n < 100) (ha : ps 0 = nI pa) (he : ps 1 = nI pe) (hpa : pa ≤ n) (hpe : pe ≤ n)
    (h1 : pa < n ∨ pe < n → post 1) (h0 : pa = n → pe = n → post 0) : wpX_isRunning post (qd, ll, (nI n), rs, bu, cy, ex, oh, oc, sh, sc, op, x, y, z, rg, ce, ar, ps, on, ls, pl, ov, oa, sl) := by
  simp only [wpX_isRunning, ha, he]
  by_cases c : pa < n
  · exact br_t (nI_lt c (by omega)) (h1 (Or.inl c))
  · refine br_f (nI_nlt (by omega) (by omega)) ?_
    by_cases c2 : pe < n
    · exact br_f (nI_ge c2 (by omega)) (h1 (Or.inr c2))
    · exact br_t (nI_le (by omega) (by omega)) (h0 (by omega) (by omega))
theorem da_V_up {op x y z : Nat → Int32} {tr : Nat → da_St} {sd : Nat → Bool} {dq e a c H : Nat} {As : List Nat} {B Hs : Nat} {bu ex oh oc sh sc : Int32} {rg ce ar ps on ls pl ov oa sl : Nat → Int32} (V : da_V op x y z sd tr dq e a c H As B Hs bu ex oh oc sh sc rg ce ar ps on ls pl ov oa sl) : da_V op x y z sd tr dq e a (c + 1) H As B Hs bu ex oh oc sh sc rg ce ar ps on ls pl ov oa sl := by
  obtain ⟨v1, v2, v3, v4, v5, v6, v7, v8⟩ := V
  exact ⟨v1, v2, v3, v4, v5, v6, da_IO_up op x y z v7, v8⟩
theorem da_hd6 {op x y z : Nat → Int32} {tr : Nat → da_St} {sd : Nat → Bool} {dq e a c H : Nat} {As : List Nat} {B Hs : Nat} {bu ex oh oc sh sc : Int32} {rg ce ar ps on ls pl ov oa sl : Nat → Int32} (V : da_V op x y z sd tr dq e a c H As B Hs bu ex oh oc sh sc rg ce ar ps on ls pl ov oa sl) : As.headD 0 ≤ c + 6 := by
  have h := V.2.2.2.2.2.2.1.2.2.2.2.2.2.1
  cases As with
  | nil => exact Nat.zero_le _
  | cons t l => exact h t List.mem_cons_self
theorem da_xloop {post : Int32 → SX → Prop} {op x y z : Nat → Int32} {n K m l dq : Nat} {sd : Nat → Bool} {tr : Nat → da_St}
    (F : da_F op x y z n K m sd tr) (hd1 : 1 ≤ dq) (hd4 : dq ≤ 4) (hl6 : l ≤ 6)
    (hp : ∀ (bu cy oh oc sh sc : Int32) (ar ps on ls pl ov oa sl : Nat → Int32), post (nI K) ((nI dq), (nI l), (nI n), (nI m), bu, cy, (nI K), oh, oc, sh, sc, op, x, y, z, ((tr K).2.1), ((tr K).2.2.1), ar, ps, on, ls, pl, ov, oa, sl)) :
    ∀ (N c e a H : Nat) (As : List Nat) (B Hs : Nat) (bu cy ex oh oc sh sc : Int32) (rg ce ar ps on ls pl ov oa sl : Nat → Int32), da_V op x y z sd tr dq e a c H As B Hs bu ex oh oc sh sc rg ce ar ps on ls pl ov oa sl → e ≤ a → a ≤ K →
      7 * (K - e) + 7 * (K - a) + (As.headD 0 - c) ≤ N → c + N < 1000000 →
      wX_run_16 post (N + 1) (nI c) (nI dq) (nI l) (nI n) (nI m) bu cy ex oh oc sh sc op x y z rg ce ar ps on ls pl ov oa sl := by
  have F' := F
  obtain ⟨G, ht, hlt, hKn, hI, _⟩ := F'
  have hn24 := G.1
  intro N
  induction N with
  | zero =>
    intro c e a H As B Hs bu cy ex oh oc sh sc rg ce ar ps on ls pl ov oa sl V hea haK hN hc
    have V' := V
    obtain ⟨v1, v2, v3, ⟨p1, _⟩, ⟨p2, _⟩, _⟩ := V'
    have e1 : e = K := by omega
    have e2 : a = K := by omega
    rw [e1, hKn] at p1
    rw [e2, hKn] at p2
    refine br_f (nI_ge (b := 1000000) (by omega) (by decide)) (da_xir (by omega) p2 p1 (Nat.le_refl _) (Nat.le_refl _) (fun h => by omega) (fun _ _ => br_t rfl ?_))
    rw [v1, v2, v3, e1]
    exact hp _ _ _ _ _ _ _ _ _ _ _ _ _ _
  | succ N ih =>
    intro c e a H As B Hs bu cy ex oh oc sh sc rg ce ar ps on ls pl ov oa sl V hea haK hN hc
    have V' := V
    obtain ⟨v1, v2, v3, ⟨p1, _⟩, ⟨p2, _⟩, _⟩ := V'
    by_cases e1 : e = K
    · have e2 : a = K := by omega
      rw [e1, hKn] at p1
      rw [e2, hKn] at p2
      refine br_f (nI_ge (b := 1000000) (by omega) (by decide)) (da_xir (by omega) p2 p1 (Nat.le_refl _) (Nat.le_refl _) (fun h => by omega) (fun _ _ => br_t rfl ?_))
      rw [v1, v2, v3, e1]
      exact hp _ _ _ _ _ _ _ _ _ _ _ _ _ _
    · have heK : e < K := by omega
      have hpe := hlt e heK
      have hpa := (hI a haK).1
      refine br_f (nI_ge (b := 1000000) (by omega) (by decide)) (da_xir (by omega) p2 p1 hpa (by omega) (fun _ => br_f da_n10 ?_) (fun _ h => by omega))
      refine da_XE F hd1 hd4 hea heK haK (by omega) V ?_ ?_
      · intro H' As' Hs' ex' oh' oc' sh' sc' rg' ce' ps' on' ls' pl' V2 hm
        refine da_XA F hd1 hd4 hl6 (hm.elim (fun h => Or.inl h) (fun h => Or.inr ⟨by omega, h.2⟩)) heK haK (by omega) V2 ?_ ?_
        · intro As2 B2 bu2 oc2 sc2 ar2 ps2 on2 ls2 pl2 ov2 oa2 sl2 V3 haK2
          have h6 := da_hd6 V3
          exact nm_r (nI_1 c) (ih (c + 1) (e + 1) (a + 1) _ _ _ _ _ _ _ _ _ _ _ _ _ _ _ _ _ _ _ _ _ (da_V_up V3) (by omega) (by omega) (by omega) (by omega))
        · intro he2 _
          have h6 := da_hd6 V2
          exact nm_r (nI_1 c) (ih (c + 1) (e + 1) a _ _ _ _ _ _ _ _ _ _ _ _ _ _ _ _ _ _ _ _ _ (da_V_up V2) (by omega) (by omega) (by omega) (by omega))
      · intro hs
        refine da_XA F hd1 hd4 hl6 (Or.inl hea) (by omega) haK (by omega) V ?_ ?_
        · intro As2 B2 bu2 oc2 sc2 ar2 ps2 on2 ls2 pl2 ov2 oa2 sl2 V3 haK2
          have h6 := da_hd6 V3
          clear hs
          exact nm_r (nI_1 c) (ih (c + 1) e (a + 1) _ _ _ _ _ _ _ _ _ _ _ _ _ _ _ _ _ _ _ _ _ (da_V_up V3) (by omega) (by omega) (by omega) (by omega))
        · intro _ h2
          have h3 : As.headD 0 - (c + 1) + 1 ≤ As.headD 0 - c := by
            rcases hs with h | ⟨t, As', h, h'⟩
            · omega
            · rw [h]
              show t - (c + 1) + 1 ≤ t - c
              omega
          clear hs
          exact nm_r (nI_1 c) (ih (c + 1) e a _ _ _ _ _ _ _ _ _ _ _ _ _ _ _ _ _ _ _ _ _ (da_V_up V) hea haK (by omega) (by omega))
theorem da_V0 {op x y z rg ce lf g ps on ls pl ov oa sl : Nat → Int32} {sd : Nat → Bool} {dq : Nat} (hg : ∀ r, r < 8 → g r = rg r) :
    da_V op x y z sd (da_tr op x y z (0, rg, ce, lf)) dq 0 0 0 0 [] 0 0 0 0 0 0 0 0 rg ce g (upd (upd ps 0 0) 1 0) (upd (upd on 0 0) 1 0) ls pl ov oa sl := by
  refine ⟨rfl, rfl, rfl, ⟨rfl, rfl, trivial⟩, ⟨rfl, rfl, trivial⟩, fun r hr _ => hg r hr, ⟨rfl, rfl, Nat.zero_le _, trivial, rfl, trivial, (fun t ht => nomatch ht), rfl, Nat.zero_le _, fun h => absurd h (by decide)⟩, ⟨rfl, rfl, Nat.zero_le _, trivial⟩⟩
theorem i_vc_run {k : Nat} {u : SX} {v : SY} (I : i_Rel k u v) (hk : k + 5 ≤ 2562) : wpX_run (fun r u' => wpY_run (fun r' v' => r' = r ∧ i_Rel (k + 5) u' v') v) u := by
  obtain ⟨dq, lt, n, rs, bu, cy, ex, oh, oc, sh, sc, op, x, y, z, rg, ce, ar, ps, on, ls, pl, ov, oa, sl, lf, h1, h2, h3, h4, h5, h6, rfl, rfl⟩ := I
  unfold wpX_run wpY_run
  dsimp only
  by_cases hw : da_wf op y n = true
  · obtain ⟨K, hK, F⟩ := da_F_mk op x y z h5 h6 hw rg ce lf
    refine da_xwf h5 h6 ?_
    rw [hw]
    refine br_f da_n10 (da_xstart h5 h6 (fun g hg => ⟨14 * 864 + 1, ?_⟩))
    refine da_xloop F h1 h2 h4 ?_ (14 * 864) 0 0 0 0 [] 0 0 _ _ _ _ _ _ _ _ _ _ _ _ _ _ _ _ _ (da_V0 hg) (Nat.le_refl _) (Nat.zero_le _) (by show 7 * (K - 0) + 7 * (K - 0) + (0 - 0) ≤ 14 * 864; omega) (by decide)
    intro bu cy oh oc sh sc ar ps on ls pl ov oa sl
    refine da_ywf h5 h6 ?_
    rw [hw]
    exact br_f da_n10 ⟨K + 1, da_yloop F hK ⟨rfl, da_Rel _ h1 h2 h3 h4 h5 h6⟩ K 0 (by omega)⟩
  · have hw' := Bool.eq_false_iff.mpr hw
    refine da_xwf h5 h6 ?_
    rw [hw']
    refine br_t rfl (da_ywf h5 h6 ?_)
    rw [hw']
    exact br_t rfl ⟨rfl, da_Rel _ h1 h2 h3 h4 h5 h6⟩
end
