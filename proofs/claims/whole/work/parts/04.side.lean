/-! The address side: both rounds end in the least closed set -/
theorem da_orN (a b : Nat) : nI a ||| nI b = nI (a ||| b) := by
  apply Int32.toBitVec_inj.1
  show BitVec.ofNat 32 a ||| BitVec.ofNat 32 b = BitVec.ofNat 32 (a ||| b)
  apply BitVec.eq_of_getLsbD_eq
  intro i hi
  simp [hi]
theorem da_sh1 : ∀ k, k < 8 → (1 : Int32) <<< (nI k &&& 31) = nI (2 ^ k) := by decide +kernel
theorem da_bit : ∀ m, m < 256 → ∀ k, k < 8 → ((nI m >>> (nI k &&& 31)) &&& 1) = nI (if m.testBit k = true then 1 else 0) := by decide +kernel
theorem da_pw : ∀ k, k < 8 → 2 ^ k < 256 := by decide
theorem da_or256 {a b : Nat} (ha : a < 256) (hb : b < 256) : a ||| b < 256 := Nat.or_lt_two_pow (n := 8) ha hb

def da_sub (a b : Nat) : Prop := ∀ r, a.testBit r = true → b.testBit r = true
theorem da_sub_r (a : Nat) : da_sub a a := fun _ h => h
theorem da_sub_t {a b c : Nat} (h : da_sub a b) (h' : da_sub b c) : da_sub a c := fun r e => h' r (h r e)
theorem da_sub_a {a b : Nat} (h : da_sub a b) (h' : da_sub b a) : a = b := by
  apply Nat.eq_of_testBit_eq
  intro i
  have h1 := h i
  have h2 := h' i
  cases e : a.testBit i with
  | true => exact (h1 e).symm
  | false =>
    cases e' : b.testBit i with
    | true => rw [h2 e'] at e; exact absurd e (by decide)
    | false => rfl
theorem da_sub_l (a b : Nat) : da_sub a (a ||| b) := fun r h => by rw [Nat.testBit_or, h]; rfl
theorem da_sub_o {a b c : Nat} (h : da_sub a c) (h' : da_sub b c) : da_sub (a ||| b) c := by
  intro r e
  rw [Nat.testBit_or, Bool.or_eq_true] at e
  rcases e with e | e
  · exact h r e
  · exact h' r e
theorem da_sub_2 {k c : Nat} (h : c.testBit k = true) : da_sub (2 ^ k) c := by
  intro r e
  rw [Nat.testBit_two_pow] at e
  rw [← of_decide_eq_true e]; exact h
theorem da_sub_0 (c : Nat) : da_sub 0 c := by
  intro r e
  rw [Nat.zero_testBit] at e
  exact absurd e (by decide)
theorem da_or_has {m k : Nat} (h : m ||| 2 ^ k = m) : m.testBit k = true := by
  rw [← h, Nat.testBit_or, Nat.testBit_two_pow_self, Bool.or_true]

def da_fd (f : Nat → Nat → Nat) : Nat → Nat → Nat
  | 0, m => m
  | n + 1, m => f n (da_fd f n m)
def da_it (g : Nat → Nat) : Nat → Nat → Nat
  | 0, m => m
  | t + 1, m => g (da_it g t m)

def da_cnt (m : Nat) : Nat := da_sm (fun r => if m.testBit r = true then 1 else 0) 8
theorem da_cnt8 (m : Nat) : da_cnt m ≤ 8 := by
  have := da_sm_bd (f := fun r => if m.testBit r = true then 1 else 0) (c := 1) 8 (fun j _ => by split <;> omega)
  unfold da_cnt; omega
theorem da_cnt_lt {a b : Nat} (ha : a < 256) (hb : b < 256) (h : da_sub a b) (hn : ¬ b = a) : da_cnt a < da_cnt b := by
  have hex : ∃ r, r < 8 ∧ a.testBit r = false ∧ b.testBit r = true := by
    apply Classical.byContradiction
    intro hx
    apply hn
    refine da_sub_a ?_ h
    intro r e
    by_cases c : r < 8
    · cases e' : a.testBit r with
      | true => rfl
      | false => exact absurd ⟨r, c, e', e⟩ hx
    · have h8 : 2 ^ 8 ≤ 2 ^ r := Nat.pow_le_pow_right (by decide) (by omega)
      have hp : b < 2 ^ r := Nat.lt_of_lt_of_le (show b < 2 ^ 8 from hb) h8
      rw [Nat.testBit_lt_two_pow hp] at e
      exact absurd e (by decide)
  obtain ⟨r, hr, e1, e2⟩ := hex
  refine da_sm_lt (i := r) 8 (fun j _ => ?_) hr ?_
  · by_cases c : a.testBit j = true
    · rw [if_pos c, if_pos (h j c)]; exact Nat.le_refl _
    · rw [if_neg c]; exact Nat.zero_le _
  · rw [e1, e2]; decide

theorem da_fix (g : Nat → Nat) (hg : ∀ m, m < 256 → da_sub m (g m) ∧ g m < 256) (m : Nat) (hm : m < 256) :
    ∀ t, da_it g t m < 256 ∧ (g (da_it g t m) = da_it g t m ∨ t ≤ da_cnt (da_it g t m)) := by
  intro t
  induction t with
  | zero => exact ⟨hm, Or.inr (Nat.zero_le _)⟩
  | succ t ih =>
    obtain ⟨h1, h2⟩ := ih
    obtain ⟨g1, g2⟩ := hg _ h1
    refine ⟨g2, ?_⟩
    show g (g (da_it g t m)) = g (da_it g t m) ∨ t + 1 ≤ da_cnt (g (da_it g t m))
    by_cases c : g (da_it g t m) = da_it g t m
    · left; rw [c, c]
    · right
      have := da_cnt_lt h1 g2 g1 c
      rcases h2 with h2 | h2
      · exact absurd h2 c
      · omega
theorem da_fix8 (g : Nat → Nat) (hg : ∀ m, m < 256 → da_sub m (g m) ∧ g m < 256) (m : Nat) (hm : m < 256) (t : Nat) (ht : 8 ≤ t) :
    g (da_it g t m) = da_it g t m := by
  obtain ⟨h1, h2⟩ := da_fix g hg m hm t
  rcases h2 with h2 | h2
  · exact h2
  · apply Classical.byContradiction
    intro c
    obtain ⟨g1, g2⟩ := hg _ h1
    have := da_cnt_lt h1 g2 g1 c
    have := da_cnt8 (g (da_it g t m))
    omega
theorem da_it_sub (g : Nat → Nat) (c : Nat) (hg : ∀ m, da_sub m c → da_sub (g m) c) (m : Nat) (hm : da_sub m c) : ∀ t, da_sub (da_it g t m) c := by
  intro t
  induction t with
  | zero => exact hm
  | succ t ih => exact hg _ ih
theorem da_it_infl (g : Nat → Nat) (hg : ∀ m, da_sub m (g m)) (m : Nat) : ∀ t, da_sub m (da_it g t m) := by
  intro t
  induction t with
  | zero => exact da_sub_r m
  | succ t ih => exact da_sub_t ih (hg _)
theorem da_fd_sub (f : Nat → Nat → Nat) (c n : Nat) (hf : ∀ i m, i < n → da_sub m c → da_sub (f i m) c) (m : Nat) (hm : da_sub m c) : ∀ k, k ≤ n → da_sub (da_fd f k m) c := by
  intro k
  induction k with
  | zero => intro _; exact hm
  | succ k ih => intro hk; exact hf k _ (by omega) (ih (by omega))
theorem da_fd_infl (f : Nat → Nat → Nat) (hf : ∀ i m, da_sub m (f i m)) (m : Nat) (j : Nat) : ∀ k, da_sub (da_fd f j m) (da_fd f (j + k) m) := by
  intro k
  induction k with
  | zero => exact da_sub_r _
  | succ k ih => exact da_sub_t ih (hf _ _)
theorem da_fd_256 (f : Nat → Nat → Nat) (n : Nat) (hf : ∀ i m, i < n → m < 256 → f i m < 256) (m : Nat) (hm : m < 256) : ∀ k, k ≤ n → da_fd f k m < 256 := by
  intro k
  induction k with
  | zero => intro _; exact hm
  | succ k ih => intro hk; exact hf k _ (by omega) (ih (by omega))
theorem da_fd_fix (f : Nat → Nat → Nat) (hf : ∀ i m, da_sub m (f i m)) (m n : Nat) (h : da_fd f n m = m) : ∀ i, i < n → f i m = m := by
  have hk : ∀ k, k ≤ n → da_fd f k m = m := by
    intro k hk
    refine da_sub_a ?_ ?_
    · have := da_fd_infl f hf m k (n - k)
      rw [show k + (n - k) = n by omega, h] at this
      exact this
    · have := da_fd_infl f hf m 0 k
      rw [Nat.zero_add] at this
      exact this
  intro i hi
  have h1 := hk (i + 1) (by omega)
  have h2 := hk i (by omega)
  rw [da_fd, h2] at h1
  exact h1

section
variable (op x y z : Nat → Int32)
def da_am (i : Nat) : Nat :=
  if op i = 6 ∨ op i = 7 then 2 ^ (y i).toNatClampNeg else if op i = 8 then 2 ^ (x i).toNatClampNeg else 0
def da_so (i : Nat) : Nat :=
  if op i ≤ 4 then 2 ^ (y i).toNatClampNeg ||| 2 ^ (z i).toNatClampNeg else 2 ^ (y i).toNatClampNeg
def da_xs (i m : Nat) : Nat := m ||| da_am op x y i
def da_xr (i m : Nat) : Nat := if op i ≤ 6 ∧ m.testBit (x i).toNatClampNeg = true then m ||| da_so op y z i else m
def da_y1 (i m : Nat) : Nat := if op i = 6 ∨ op i = 7 then m ||| 2 ^ (y i).toNatClampNeg else m
def da_y2 (i m : Nat) : Nat := if op i = 8 then m ||| 2 ^ (x i).toNatClampNeg else m
def da_y3 (i m : Nat) : Nat := if op i ≤ 6 ∧ m.testBit (x i).toNatClampNeg = true then m ||| 2 ^ (y i).toNatClampNeg else m
def da_y4 (i m : Nat) : Nat := if op i ≤ 4 ∧ m.testBit (x i).toNatClampNeg = true then m ||| 2 ^ (z i).toNatClampNeg else m
def da_yg (i m : Nat) : Nat := da_y4 op x z i (da_y3 op x y i (da_y2 op x i (da_y1 op y i m)))
/-- X's side, Y's side -/
def da_X (n : Nat) : Nat := da_it (da_fd (da_xr op x y z) n) 8 (da_fd (da_xs op x y) n 0)
def da_Y (n : Nat) : Nat := da_it (da_fd (da_yg op x y z) n) 9 0

def da_C (n c : Nat) : Prop := ∀ i, i < n →
  (op i = 6 ∨ op i = 7 → c.testBit (y i).toNatClampNeg = true) ∧ (op i = 8 → c.testBit (x i).toNatClampNeg = true) ∧
  (op i ≤ 6 → c.testBit (x i).toNatClampNeg = true → c.testBit (y i).toNatClampNeg = true) ∧
  (op i ≤ 4 → c.testBit (x i).toNatClampNeg = true → c.testBit (z i).toNatClampNeg = true)

theorem da_46 {v : Int32} (h : v ≤ 4) : v ≤ 6 := Int32.le_trans h (by decide)

theorem da_xs_i (i m : Nat) : da_sub m (da_xs op x y i m) := da_sub_l _ _
theorem da_xr_i (i m : Nat) : da_sub m (da_xr op x y z i m) := by
  unfold da_xr; split
  · exact da_sub_l _ _
  · exact da_sub_r _
theorem da_y1_i (i m : Nat) : da_sub m (da_y1 op y i m) := by
  unfold da_y1; split
  · exact da_sub_l _ _
  · exact da_sub_r _
theorem da_y2_i (i m : Nat) : da_sub m (da_y2 op x i m) := by
  unfold da_y2; split
  · exact da_sub_l _ _
  · exact da_sub_r _
theorem da_y3_i (i m : Nat) : da_sub m (da_y3 op x y i m) := by
  unfold da_y3; split
  · exact da_sub_l _ _
  · exact da_sub_r _
theorem da_y4_i (i m : Nat) : da_sub m (da_y4 op x z i m) := by
  unfold da_y4; split
  · exact da_sub_l _ _
  · exact da_sub_r _
theorem da_yg_i (i m : Nat) : da_sub m (da_yg op x y z i m) :=
  da_sub_t (da_y1_i op y i m) (da_sub_t (da_y2_i op x i _) (da_sub_t (da_y3_i op x y i _) (da_y4_i op x z i _)))

theorem da_xs_c {n c : Nat} (C : da_C op x y z n c) (i m : Nat) (hi : i < n) (h : da_sub m c) : da_sub (da_xs op x y i m) c := by
  obtain ⟨c1, c2, _, _⟩ := C i hi
  unfold da_xs da_am
  refine da_sub_o h ?_
  split
  · exact da_sub_2 (c1 ‹_›)
  · split
    · exact da_sub_2 (c2 ‹_›)
    · exact da_sub_0 c
theorem da_xr_c {n c : Nat} (C : da_C op x y z n c) (i m : Nat) (hi : i < n) (h : da_sub m c) : da_sub (da_xr op x y z i m) c := by
  obtain ⟨_, _, c3, c4⟩ := C i hi
  unfold da_xr
  by_cases e : op i ≤ 6 ∧ m.testBit (x i).toNatClampNeg = true
  · rw [if_pos e]
    refine da_sub_o h ?_
    have hx := h _ e.2
    unfold da_so
    by_cases e4 : op i ≤ 4
    · rw [if_pos e4]; exact da_sub_o (da_sub_2 (c3 e.1 hx)) (da_sub_2 (c4 e4 hx))
    · rw [if_neg e4]; exact da_sub_2 (c3 e.1 hx)
  · rw [if_neg e]; exact h
theorem da_yg_c {n c : Nat} (C : da_C op x y z n c) (i m : Nat) (hi : i < n) (h : da_sub m c) : da_sub (da_yg op x y z i m) c := by
  obtain ⟨c1, c2, c3, c4⟩ := C i hi
  have h1 : da_sub (da_y1 op y i m) c := by
    unfold da_y1
    by_cases e : op i = 6 ∨ op i = 7
    · rw [if_pos e]; exact da_sub_o h (da_sub_2 (c1 e))
    · rw [if_neg e]; exact h
  have h2 : da_sub (da_y2 op x i (da_y1 op y i m)) c := by
    unfold da_y2
    by_cases e : op i = 8
    · rw [if_pos e]; exact da_sub_o h1 (da_sub_2 (c2 e))
    · rw [if_neg e]; exact h1
  have h3 : da_sub (da_y3 op x y i (da_y2 op x i (da_y1 op y i m))) c := by
    unfold da_y3
    split
    · rename_i e
      exact da_sub_o h2 (da_sub_2 (c3 e.1 (h2 _ e.2)))
    · exact h2
  unfold da_yg da_y4
  split
  · rename_i e
    exact da_sub_o h3 (da_sub_2 (c4 e.1 (h3 _ e.2)))
  · exact h3

/-- registers of the instructions are below 8 where they are read -/
def da_B (n : Nat) : Prop := ∀ i, i < n → (op i ≤ 7 → (y i).toNatClampNeg < 8) ∧ (op i = 8 → (x i).toNatClampNeg < 8) ∧ (op i ≤ 4 → (z i).toNatClampNeg < 8)

theorem da_xs_b {n : Nat} (B : da_B op x y z n) (i m : Nat) (hi : i < n) (h : m < 256) : da_xs op x y i m < 256 := by
  obtain ⟨b1, b2, _⟩ := B i hi
  unfold da_xs da_am
  refine da_or256 h ?_
  split
  · rename_i e
    refine da_pw _ (b1 ?_)
    rcases e with e | e
    · rw [e]; decide
    · rw [e]; decide
  · split
    · exact da_pw _ (b2 ‹_›)
    · decide
theorem da_67 {v : Int32} (h : v ≤ 6) : v ≤ 7 := Int32.le_trans h (by decide)
theorem da_xr_b {n : Nat} (B : da_B op x y z n) (i m : Nat) (hi : i < n) (h : m < 256) : da_xr op x y z i m < 256 := by
  obtain ⟨b1, _, b3⟩ := B i hi
  unfold da_xr da_so
  split
  · rename_i e
    have hy := da_pw _ (b1 (da_67 e.1))
    refine da_or256 h ?_
    split
    · exact da_or256 hy (da_pw _ (b3 ‹_›))
    · exact hy
  · exact h
theorem da_yg_b {n : Nat} (B : da_B op x y z n) (i m : Nat) (hi : i < n) (h : m < 256) : da_y1 op y i m < 256 ∧ da_y2 op x i (da_y1 op y i m) < 256 ∧ da_y3 op x y i (da_y2 op x i (da_y1 op y i m)) < 256 ∧ da_yg op x y z i m < 256 := by
  obtain ⟨b1, b2, b3⟩ := B i hi
  have h1 : da_y1 op y i m < 256 := by
    unfold da_y1; split
    · rename_i e
      refine da_or256 h (da_pw _ (b1 ?_))
      rcases e with e | e
      · rw [e]; decide
      · rw [e]; decide
    · exact h
  have h2 : da_y2 op x i (da_y1 op y i m) < 256 := by
    unfold da_y2; split
    · exact da_or256 h1 (da_pw _ (b2 ‹_›))
    · exact h1
  have h3 : da_y3 op x y i (da_y2 op x i (da_y1 op y i m)) < 256 := by
    unfold da_y3; split
    · rename_i e
      exact da_or256 h2 (da_pw _ (b1 (da_67 e.1)))
    · exact h2
  refine ⟨h1, h2, h3, ?_⟩
  unfold da_yg da_y4; split
  · rename_i e
    exact da_or256 h3 (da_pw _ (b3 e.1))
  · exact h3

theorem da_X_b {n : Nat} (B : da_B op x y z n) : da_fd (da_xs op x y) n 0 < 256 :=
  da_fd_256 _ n (da_xs_b op x y z B) 0 (by decide) n (Nat.le_refl _)
theorem da_xr_g {n : Nat} (B : da_B op x y z n) (m : Nat) (hm : m < 256) : da_sub m (da_fd (da_xr op x y z) n m) ∧ da_fd (da_xr op x y z) n m < 256 := by
  refine ⟨?_, da_fd_256 _ n (da_xr_b op x y z B) m hm n (Nat.le_refl _)⟩
  have := da_fd_infl (da_xr op x y z) (da_xr_i op x y z) m 0 n
  rw [Nat.zero_add] at this
  exact this
theorem da_yg_g {n : Nat} (B : da_B op x y z n) (m : Nat) (hm : m < 256) : da_sub m (da_fd (da_yg op x y z) n m) ∧ da_fd (da_yg op x y z) n m < 256 := by
  refine ⟨?_, da_fd_256 _ n (fun i m hi h => (da_yg_b op x y z B i m hi h).2.2.2) m hm n (Nat.le_refl _)⟩
  have := da_fd_infl (da_yg op x y z) (da_yg_i op x y z) m 0 n
  rw [Nat.zero_add] at this
  exact this
theorem da_X_256 {n : Nat} (B : da_B op x y z n) : da_X op x y z n < 256 :=
  (da_fix _ (da_xr_g op x y z B) _ (da_X_b op x y z B) 8).1

theorem da_X_C {n : Nat} (B : da_B op x y z n) : da_C op x y z n (da_X op x y z n) := by
  have hfix := da_fix8 _ (da_xr_g op x y z B) _ (da_X_b op x y z B) 8 (by decide)
  have hi := da_fd_fix _ (da_xr_i op x y z) _ _ hfix
  have hseed : da_sub (da_fd (da_xs op x y) n 0) (da_X op x y z n) := by
    refine da_it_infl _ (fun m => ?_) _ 8
    have := da_fd_infl (da_xr op x y z) (da_xr_i op x y z) m 0 n
    rw [Nat.zero_add] at this
    exact this
  intro i hin
  have hs : da_sub (da_am op x y i) (da_X op x y z n) := by
    refine da_sub_t ?_ hseed
    have h1 := da_fd_infl (da_xs op x y) (da_xs_i op x y) 0 (i + 1) (n - (i + 1))
    rw [show i + 1 + (n - (i + 1)) = n by omega] at h1
    refine da_sub_t ?_ h1
    intro r e
    show (da_fd (da_xs op x y) i 0 ||| da_am op x y i).testBit r = true
    rw [Nat.testBit_or, e, Bool.or_true]
  have hr : da_xr op x y z i (da_X op x y z n) = da_X op x y z n := hi i hin
  unfold da_am at hs
  refine ⟨fun e => ?_, fun e => ?_, fun e hx => ?_, fun e hx => ?_⟩
  · rw [if_pos e] at hs
    exact hs _ Nat.testBit_two_pow_self
  · rw [if_neg (by rw [e]; decide), if_pos e] at hs
    exact hs _ Nat.testBit_two_pow_self
  · unfold da_xr at hr
    rw [if_pos ⟨e, hx⟩] at hr
    rw [← hr, Nat.testBit_or]
    unfold da_so
    split
    · rw [Nat.testBit_or, Nat.testBit_two_pow_self]; simp
    · rw [Nat.testBit_two_pow_self]; simp
  · unfold da_xr at hr
    rw [if_pos ⟨da_46 e, hx⟩] at hr
    rw [← hr, Nat.testBit_or]
    unfold da_so
    rw [if_pos e, Nat.testBit_or, Nat.testBit_two_pow_self]; simp

theorem da_Y_C {n : Nat} (B : da_B op x y z n) : da_C op x y z n (da_Y op x y z n) := by
  have hfix := da_fix8 _ (da_yg_g op x y z B) 0 (by decide) 9 (by decide)
  have hi := da_fd_fix _ (da_yg_i op x y z) _ _ hfix
  intro i hin
  have hr : da_yg op x y z i (da_Y op x y z n) = da_Y op x y z n := hi i hin
  generalize da_Y op x y z n = m at hr ⊢
  have s1 := da_y1_i op y i m
  have s2 := da_y2_i op x i (da_y1 op y i m)
  have s3 := da_y3_i op x y i (da_y2 op x i (da_y1 op y i m))
  have s4 := da_y4_i op x z i (da_y3 op x y i (da_y2 op x i (da_y1 op y i m)))
  have s4' : da_sub (da_y4 op x z i (da_y3 op x y i (da_y2 op x i (da_y1 op y i m)))) m := by
    intro r e
    have hr' : da_y4 op x z i (da_y3 op x y i (da_y2 op x i (da_y1 op y i m))) = m := hr
    rw [hr'] at e; exact e
  have e1 : da_y1 op y i m = m := da_sub_a (da_sub_t s2 (da_sub_t s3 (da_sub_t s4 s4'))) s1
  rw [e1] at s2 s3 s4 s4'
  have e2 : da_y2 op x i m = m := da_sub_a (da_sub_t s3 (da_sub_t s4 s4')) s2
  rw [e2] at s3 s4 s4'
  have e3 : da_y3 op x y i m = m := da_sub_a (da_sub_t s4 s4') s3
  rw [e3] at s4 s4'
  have e4 : da_y4 op x z i m = m := da_sub_a s4' s4
  unfold da_y1 at e1
  unfold da_y2 at e2
  unfold da_y3 at e3
  unfold da_y4 at e4
  refine ⟨fun e => ?_, fun e => ?_, fun e hx => ?_, fun e hx => ?_⟩
  · rw [if_pos e] at e1; exact da_or_has e1
  · rw [if_pos e] at e2; exact da_or_has e2
  · rw [if_pos ⟨e, hx⟩] at e3; exact da_or_has e3
  · rw [if_pos ⟨e, hx⟩] at e4; exact da_or_has e4

theorem da_XY {n : Nat} (B : da_B op x y z n) : da_X op x y z n = da_Y op x y z n := by
  refine da_sub_a ?_ ?_
  · have C := da_Y_C op x y z B
    refine da_it_sub _ _ (fun m hm => da_fd_sub _ _ n (da_xr_c op x y z C) m hm n (Nat.le_refl _)) _ ?_ 8
    exact da_fd_sub _ _ n (da_xs_c op x y z C) 0 (da_sub_0 _) n (Nat.le_refl _)
  · have C := da_X_C op x y z B
    exact da_it_sub _ _ (fun m hm => da_fd_sub _ _ n (da_yg_c op x y z C) m hm n (Nat.le_refl _)) _ (da_sub_0 _) 9
end
