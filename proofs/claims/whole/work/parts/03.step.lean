/-! One step of the plain reading, its invariant, the length of the trace -/
abbrev da_St : Type := Nat × (Nat → Int32) × (Nat → Int32) × (Nat → Int32)
def da_sum (o a b : Int32) : Int32 :=
  if o = 0 then a + b else if o = 1 then a - b else if o = 2 then a * b else if o = 3 then a ^^^ b else if a < b then 1 else 0

def da_sm (f : Nat → Nat) : Nat → Nat
  | 0 => 0
  | n + 1 => da_sm f n + f n
theorem da_sm_le {f g : Nat → Nat} : ∀ n, (∀ j, j < n → f j ≤ g j) → da_sm f n ≤ da_sm g n := by
  intro n
  induction n with
  | zero => intro _; exact Nat.le_refl _
  | succ n ih =>
    intro h
    have h1 := ih (fun j hj => h j (by omega))
    have h2 := h n (by omega)
    show da_sm f n + f n ≤ da_sm g n + g n
    omega
theorem da_sm_lt {f g : Nat → Nat} {i : Nat} : ∀ n, (∀ j, j < n → f j ≤ g j) → i < n → f i < g i → da_sm f n < da_sm g n := by
  intro n
  induction n with
  | zero => intro _ h; omega
  | succ n ih =>
    intro h hi hl
    have h2 := h n (by omega)
    show da_sm f n + f n < da_sm g n + g n
    by_cases e : i = n
    · rw [e] at hl
      have h1 := da_sm_le (f := f) (g := g) n (fun j hj => h j (by omega))
      omega
    · have h1 := ih (fun j hj => h j (by omega)) (by omega) hl
      omega
theorem da_sm_bd {f : Nat → Nat} {c : Nat} : ∀ n, (∀ j, j < n → f j ≤ c) → da_sm f n ≤ n * c := by
  intro n
  induction n with
  | zero => intro _; exact Nat.zero_le _
  | succ n ih =>
    intro h
    have h1 := ih (fun j hj => h j (by omega))
    have h2 := h n (by omega)
    show da_sm f n + f n ≤ (n + 1) * c
    rw [Nat.add_mul]; omega

section
variable (op x y z : Nat → Int32)

def da_cl (i : Nat) (R : Nat → Int32) : Int32 := (R (y i).toNatClampNeg + z i) &&& 15
def da_tv (i : Nat) (R M : Nat → Int32) : Int32 :=
  if op i = 5 then R (y i).toNatClampNeg + z i
  else if op i = 6 then M (da_cl y z i R).toNatClampNeg
  else da_sum (op i) (R (y i).toNatClampNeg) (R (z i).toNatClampNeg)
def da_hd (i : Nat) : Nat := (da_enc op i).headD 0
/-- one step -/
def da_st (s : da_St) : da_St :=
  if op s.1 = 7 then (s.1 + 1, s.2.1, upd s.2.2.1 (da_cl y z s.1 s.2.1).toNatClampNeg (s.2.1 (x s.1).toNatClampNeg), s.2.2.2)
  else if op s.1 = 8 then (if s.2.1 (x s.1).toNatClampNeg = 0 then s.1 + 1 + (y s.1).toNatClampNeg else s.1 + 1, s.2.1, s.2.2.1, s.2.2.2)
  else if op s.1 = 9 then (s.1 + 1, s.2.1, s.2.2.1, upd s.2.2.2 s.1 (x s.1))
  else if op s.1 = 10 then (if 0 < s.2.2.2 (da_hd op s.1) - 1 then da_hd op s.1 + 1 else s.1 + 1, s.2.1, s.2.2.1, upd s.2.2.2 (da_hd op s.1) (s.2.2.2 (da_hd op s.1) - 1))
  else (s.1 + 1, upd s.2.1 (x s.1).toNatClampNeg (da_tv op y z s.1 s.2.1 s.2.2.1), s.2.2.1, s.2.2.2)
def da_tr (s : da_St) : Nat → da_St
  | 0 => s
  | k + 1 => da_st op x y z (da_tr s k)
theorem da_tr_s (s : da_St) : ∀ k, da_tr op x y z (da_st op x y z s) k = da_tr op x y z s (k + 1) := by
  intro k
  induction k with
  | zero => rfl
  | succ k ih => rw [da_tr, ih]; rfl

/-- what holds at each place of the trace -/
def da_I (n : Nat) (s : da_St) : Prop := s.1 ≤ n ∧ ∀ b, b ∈ da_enc op s.1 → ∃ p : Nat, 1 ≤ p ∧ p ≤ 6 ∧ s.2.2.2 b = nI p

def da_w0 (l : Nat) : Nat := if l = 0 then 1 else if l = 1 then 6 else 36
def da_w1 (l t : Nat) : Nat := if l ≤ 1 then t else 6 * t
def da_in (pc j : Nat) : Nat := if pc ≤ j then 1 else 0
def da_r0 (pc j l : Nat) : Nat := if pc ≤ j then da_w0 l else 0
def da_r1 (b0 pc p0 j : Nat) : Nat :=
  if b0 ∈ da_enc op j then da_w1 (da_enc op j).length (da_in pc j + (p0 - 1)) else da_r0 pc j (da_enc op j).length
def da_r2 (b1 b0 pc p1 p0 j : Nat) : Nat :=
  if b1 ∈ da_enc op j then da_in pc j + (p1 - 1) + 6 * (p0 - 1) else da_r1 op b0 pc p0 j
def da_r (st : List Nat) (pc : Nat) (p : Nat → Nat) (j : Nat) : Nat :=
  match st with
  | [] => da_r0 pc j (da_enc op j).length
  | [b0] => da_r1 op b0 pc (p b0) j
  | b1 :: b0 :: _ => da_r2 op b1 b0 pc (p b1) (p b0) j

theorem da_w0_pos (l : Nat) : 1 ≤ da_w0 l := by unfold da_w0; (repeat' split) <;> omega
theorem da_w1_mono {l a b : Nat} (h : a ≤ b) : da_w1 l a ≤ da_w1 l b := by unfold da_w1; split <;> omega
theorem da_w1_lt {l a b : Nat} (h : a < b) : da_w1 l a < da_w1 l b := by unfold da_w1; split <;> omega
theorem da_in_mono {pc pc' j : Nat} (h : pc ≤ j → pc' ≤ j) : da_in pc j ≤ da_in pc' j := by
  unfold da_in
  by_cases c : pc ≤ j
  · rw [if_pos c, if_pos (h c)]; exact Nat.le_refl _
  · rw [if_neg c]; exact Nat.zero_le _
theorem da_r0_mono {pc pc' j l : Nat} (h : pc ≤ j → pc' ≤ j) : da_r0 pc j l ≤ da_r0 pc' j l := by
  unfold da_r0
  by_cases c : pc ≤ j
  · rw [if_pos c, if_pos (h c)]; exact Nat.le_refl _
  · rw [if_neg c]; exact Nat.zero_le _
theorem da_r1_mono {b0 pc pc' p0 j : Nat} (h : pc ≤ j → pc' ≤ j) : da_r1 op b0 pc p0 j ≤ da_r1 op b0 pc' p0 j := by
  unfold da_r1
  have := da_in_mono h
  split
  · exact da_w1_mono (by omega)
  · exact da_r0_mono h
theorem da_r2_mono {b1 b0 pc pc' p1 p0 j : Nat} (h : pc ≤ j → pc' ≤ j) : da_r2 op b1 b0 pc p1 p0 j ≤ da_r2 op b1 b0 pc' p1 p0 j := by
  unfold da_r2
  have := da_in_mono h
  split
  · omega
  · exact da_r1_mono op h
theorem da_in_1 {pc j : Nat} (h : pc ≤ j) : da_in pc j = 1 := if_pos h
theorem da_in_0 {pc j : Nat} (h : j < pc) : da_in pc j = 0 := if_neg (by omega)
theorem da_r0_0 {pc j l : Nat} (h : j < pc) : da_r0 pc j l = 0 := if_neg (by omega)
theorem da_r0_lt {pc pc' l : Nat} (h : pc < pc') : da_r0 pc' pc l < da_r0 pc pc l := by
  unfold da_r0
  rw [if_neg (by omega), if_pos (Nat.le_refl _)]
  exact da_w0_pos l
theorem da_r1_lt {b0 pc pc' p0 : Nat} (h : pc < pc') : da_r1 op b0 pc' p0 pc < da_r1 op b0 pc p0 pc := by
  unfold da_r1
  rw [da_in_0 h, da_in_1 (Nat.le_refl _)]
  split
  · exact da_w1_lt (by omega)
  · exact da_r0_lt h
theorem da_r2_lt {b1 b0 pc pc' p1 p0 : Nat} (h : pc < pc') : da_r2 op b1 b0 pc' p1 p0 pc < da_r2 op b1 b0 pc p1 p0 pc := by
  unfold da_r2
  rw [da_in_0 h, da_in_1 (Nat.le_refl _)]
  split
  · omega
  · exact da_r1_lt op h

/-- the sum falls -/
def da_phi (n : Nat) (s : da_St) : Nat := da_sm (da_r op (da_enc op s.1) s.1 (fun b => (s.2.2.2 b).toNatClampNeg)) n

/-- on: the same running loops, the same passes, a later place -/
theorem da_fall_adv {n i i' : Nat} {st : List Nat} {p p' : Nat → Nat} (hi : i < n) (h : i < i') (hp : ∀ b, b ∈ st → p' b = p b) :
    da_sm (da_r op st i' p') n < da_sm (da_r op st i p) n := by
  refine da_sm_lt (i := i) n (fun j _ => ?_) hi ?_
  · unfold da_r
    match st, hp with
    | [], _ => exact da_r0_mono (by omega)
    | [b0], hp => simp only [hp b0 (by simp)]; exact da_r1_mono op (by omega)
    | b1 :: b0 :: _, hp => simp only [hp b0 (by simp), hp b1 (by simp)]; exact da_r2_mono op (by omega)
  · unfold da_r
    match st, hp with
    | [], _ => exact da_r0_lt h
    | [b0], hp => simp only [hp b0 (by simp)]; exact da_r1_lt op h
    | b1 :: b0 :: _, hp => simp only [hp b0 (by simp), hp b1 (by simp)]; exact da_r2_lt op h

/-- REPEAT -/
theorem da_fall_rep {n i : Nat} {st : List Nat} {p p' : Nat → Nat} (hi : i < n) (h9 : op i = 9) (he : da_enc op i = st) (hl : ∀ j, j ≤ n → (da_enc op j).length ≤ 2)
    (hp : ∀ b, b ∈ st → p' b = p b) (h6 : p' i ≤ 6) :
    da_sm (da_r op (i :: st) (i + 1) p') n < da_sm (da_r op st i p) n := by
  have hlen := hl (i + 1) (by omega)
  rw [da_enc_9 op h9, List.length_cons, he] at hlen
  have hs := da_enc_self op i
  cases st with
  | nil =>
    refine da_sm_lt (i := i) n (fun j hj => ?_) hi ?_
    · have hlj := hl j (by omega)
      show da_r1 op i (i + 1) (p' i) j ≤ da_r0 i j (da_enc op j).length
      unfold da_r1
      by_cases c : i ∈ da_enc op j
      · rw [if_pos c]
        obtain ⟨c1, _, l, c2⟩ := da_enc_mem op c
        have c3 : 1 ≤ (da_enc op j).length := by rw [c2, List.length_append, List.length_cons]; omega
        rw [da_in_1 (by omega)]
        unfold da_r0 da_w1 da_w0
        (repeat' split) <;> omega
      · rw [if_neg c]; exact da_r0_mono (by omega)
    · show da_r1 op i (i + 1) (p' i) i < da_r0 i i (da_enc op i).length
      unfold da_r1
      rw [if_neg hs]; exact da_r0_lt (by omega)
  | cons b0 t =>
    cases t with
    | nil =>
      refine da_sm_lt (i := i) n (fun j hj => ?_) hi ?_
      · have hlj := hl j (by omega)
        show da_r2 op i b0 (i + 1) (p' i) (p' b0) j ≤ da_r1 op b0 i (p b0) j
        rw [hp b0 (by simp)]
        unfold da_r2
        by_cases c : i ∈ da_enc op j
        · rw [if_pos c]
          obtain ⟨c1, _, l, c2⟩ := da_enc_mem op c
          rw [he] at c2
          have c3 : (da_enc op j).length = 2 := by
            have : (da_enc op j).length = l.length + 2 := by rw [c2]; simp
            omega
          have c4 : b0 ∈ da_enc op j := by rw [c2]; simp
          unfold da_r1
          rw [if_pos c4, c3, da_in_1 (by omega), da_in_1 (by omega)]
          unfold da_w1
          rw [if_neg (by omega)]
          omega
        · rw [if_neg c]; exact da_r1_mono op (by omega)
      · show da_r2 op i b0 (i + 1) (p' i) (p' b0) i < da_r1 op b0 i (p b0) i
        rw [hp b0 (by simp)]
        unfold da_r2
        rw [if_neg hs]; exact da_r1_lt op (by omega)
    | cons b1 t => rw [List.length_cons, List.length_cons] at hlen; omega

/-- END, another pass -/
theorem da_fall_back {n i b : Nat} {st : List Nat} {p p' : Nat → Nat} (hi : i < n) (he : da_enc op i = b :: st) (hl : (da_enc op i).length ≤ 2)
    (hp : ∀ c, c ∈ st → p' c = p c) (hb : p' b = p b - 1) (h2 : 2 ≤ p b) :
    da_sm (da_r op (b :: st) (b + 1) p') n < da_sm (da_r op (b :: st) i p) n := by
  have hbi : b ∈ da_enc op i := by rw [he]; simp
  have hout : ∀ j, ¬ b ∈ da_enc op j → b + 1 ≤ j → i ≤ j := by
    intro j h1 h3
    by_cases c : i ≤ j
    · exact c
    · exact absurd (da_enc_in op hbi (by omega) (by omega)) h1
  have cb := (da_enc_mem op hbi).1
  rw [he] at hl
  cases st with
  | nil =>
    refine da_sm_lt (i := i) n (fun j hj => ?_) hi ?_
    · show da_r1 op b (b + 1) (p' b) j ≤ da_r1 op b i (p b) j
      unfold da_r1
      by_cases c : b ∈ da_enc op j
      · have c1 := (da_enc_mem op c).1
        rw [if_pos c, if_pos c, da_in_1 (pc := b + 1) (by omega), hb]
        exact da_w1_mono (by omega)
      · rw [if_neg c, if_neg c]; exact da_r0_mono (hout j c)
    · show da_r1 op b (b + 1) (p' b) i < da_r1 op b i (p b) i
      unfold da_r1
      rw [if_pos hbi, if_pos hbi, da_in_1 (pc := b + 1) (by omega), da_in_1 (pc := i) (by omega), hb]
      exact da_w1_lt (by omega)
  | cons b0 t =>
    cases t with
    | nil =>
      refine da_sm_lt (i := i) n (fun j hj => ?_) hi ?_
      · show da_r2 op b b0 (b + 1) (p' b) (p' b0) j ≤ da_r2 op b b0 i (p b) (p b0) j
        rw [hp b0 (by simp)]
        unfold da_r2
        by_cases c : b ∈ da_enc op j
        · have c1 := (da_enc_mem op c).1
          rw [if_pos c, if_pos c, da_in_1 (pc := b + 1) (by omega), hb]
          omega
        · rw [if_neg c, if_neg c]; exact da_r1_mono op (hout j c)
      · show da_r2 op b b0 (b + 1) (p' b) (p' b0) i < da_r2 op b b0 i (p b) (p b0) i
        rw [hp b0 (by simp)]
        unfold da_r2
        rw [if_pos hbi, if_pos hbi, da_in_1 (pc := b + 1) (by omega), da_in_1 (pc := i) (by omega), hb]
        omega
    | cons b1 t => simp at hl

/-- END, the last pass -/
theorem da_fall_pop {n i b : Nat} {st : List Nat} {p p' : Nat → Nat} (hi : i < n) (h10 : op i = 10) (he : da_enc op i = b :: st)
    (hl : ∀ j, j ≤ n → (da_enc op j).length ≤ 2) (hp : ∀ c, c ∈ st → p' c = p c) :
    da_sm (da_r op st (i + 1) p') n < da_sm (da_r op (b :: st) i p) n := by
  have hbi : b ∈ da_enc op i := by rw [he]; simp
  have hbst : da_enc op b = st := (da_enc_hd op he).2.2
  have hb1 : ¬ b ∈ da_enc op (i + 1) := by
    rw [da_enc_10 op h10, he]
    show ¬ b ∈ st
    rw [← hbst]; exact da_enc_self op b
  have hle : ∀ j, b ∈ da_enc op j → j ≤ i := by
    intro j h1
    by_cases c : j ≤ i
    · exact c
    · have := da_enc_out op (b := b) (j := i + 1) (by have := (da_enc_mem op hbi).1; omega) hb1 (j - (i + 1))
      rw [show i + 1 + (j - (i + 1)) = j by omega] at this
      exact absurd h1 this
  have hlen := hl i (by omega)
  rw [he, List.length_cons] at hlen
  cases st with
  | nil =>
    refine da_sm_lt (i := i) n (fun j hj => ?_) hi ?_
    · show da_r0 (i + 1) j (da_enc op j).length ≤ da_r1 op b i (p b) j
      unfold da_r1
      by_cases c : b ∈ da_enc op j
      · have := hle j c
        rw [da_r0_0 (by omega)]; exact Nat.zero_le _
      · rw [if_neg c]; exact da_r0_mono (by omega)
    · show da_r0 (i + 1) i (da_enc op i).length < da_r1 op b i (p b) i
      rw [da_r0_0 (by omega)]
      unfold da_r1
      rw [if_pos hbi, da_in_1 (Nat.le_refl _)]
      unfold da_w1
      split <;> omega
  | cons b0 t =>
    cases t with
    | nil =>
      refine da_sm_lt (i := i) n (fun j hj => ?_) hi ?_
      · have hlj := hl j (by omega)
        show da_r1 op b0 (i + 1) (p' b0) j ≤ da_r2 op b b0 i (p b) (p b0) j
        rw [hp b0 (by simp)]
        unfold da_r2
        by_cases c : b ∈ da_enc op j
        · have := hle j c
          obtain ⟨c1, _, l, c2⟩ := da_enc_mem op c
          rw [hbst] at c2
          have c3 : (da_enc op j).length = 2 := by
            have : (da_enc op j).length = l.length + 2 := by rw [c2]; simp
            omega
          have c4 : b0 ∈ da_enc op j := by rw [c2]; simp
          rw [if_pos c]
          unfold da_r1
          rw [if_pos c4, c3, da_in_0 (by omega)]
          unfold da_w1
          rw [if_neg (by omega)]
          omega
        · rw [if_neg c]; exact da_r1_mono op (by omega)
      · show da_r1 op b0 (i + 1) (p' b0) i < da_r2 op b b0 i (p b) (p b0) i
        rw [hp b0 (by simp)]
        have hb0 : b0 ∈ da_enc op i := by rw [he]; simp
        have c3 : (da_enc op i).length = 2 := by rw [he]; simp
        unfold da_r2 da_r1
        rw [if_pos hbi, if_pos hb0, c3, da_in_1 (Nat.le_refl _), da_in_0 (by omega)]
        unfold da_w1
        rw [if_neg (by omega)]
        omega
    | cons b1 t => rw [List.length_cons, List.length_cons] at hlen; omega

/-- the step's own equations -/
theorem da_st_7 {s : da_St} (h : op s.1 = 7) : da_st op x y z s = (s.1 + 1, s.2.1, upd s.2.2.1 (da_cl y z s.1 s.2.1).toNatClampNeg (s.2.1 (x s.1).toNatClampNeg), s.2.2.2) := by
  unfold da_st; rw [if_pos h]
theorem da_st_8 {s : da_St} (h : op s.1 = 8) : da_st op x y z s = (if s.2.1 (x s.1).toNatClampNeg = 0 then s.1 + 1 + (y s.1).toNatClampNeg else s.1 + 1, s.2.1, s.2.2.1, s.2.2.2) := by
  unfold da_st; rw [if_neg (by rw [h]; decide), if_pos h]
theorem da_st_9 {s : da_St} (h : op s.1 = 9) : da_st op x y z s = (s.1 + 1, s.2.1, s.2.2.1, upd s.2.2.2 s.1 (x s.1)) := by
  unfold da_st; rw [if_neg (by rw [h]; decide), if_neg (by rw [h]; decide), if_pos h]
theorem da_st_10 {s : da_St} {b : Nat} {st : List Nat} (h : op s.1 = 10) (he : da_enc op s.1 = b :: st) : da_st op x y z s = (if 0 < s.2.2.2 b - 1 then b + 1 else s.1 + 1, s.2.1, s.2.2.1, upd s.2.2.2 b (s.2.2.2 b - 1)) := by
  have e : da_hd op s.1 = b := by unfold da_hd; rw [he]; rfl
  unfold da_st; rw [if_neg (by rw [h]; decide), if_neg (by rw [h]; decide), if_neg (by rw [h]; decide), if_pos h, e]
theorem da_st_t {s : da_St} (h7 : ¬ op s.1 = 7) (h8 : ¬ op s.1 = 8) (h9 : ¬ op s.1 = 9) (h10 : ¬ op s.1 = 10) :
    da_st op x y z s = (s.1 + 1, upd s.2.1 (x s.1).toNatClampNeg (da_tv op y z s.1 s.2.1 s.2.2.1), s.2.2.1, s.2.2.2) := by
  unfold da_st; rw [if_neg h7, if_neg h8, if_neg h9, if_neg h10]

theorem da_dec1 {p : Nat} (h : 1 ≤ p) (h6 : p ≤ 6) : nI p - 1 = nI (p - 1) := by
  obtain ⟨q, rfl⟩ : ∃ q, p = q + 1 := ⟨p - 1, by omega⟩
  rw [nI_pred]; rfl
theorem da_dec0 {p : Nat} (h6 : p ≤ 6) : 0 < nI p ↔ 1 ≤ p := by
  rw [← nI_0, nI_ltI (by omega) (by omega)]; omega

theorem da_stI {n : Nat} (G : da_G op x y z n) (s : da_St) (I : da_I op n s) (hn : s.1 < n) :
    da_I op n (da_st op x y z s) ∧ da_phi op n (da_st op x y z s) < da_phi op n s := by
  obtain ⟨hn24, hok, hl, _, hE, hS⟩ := G
  obtain ⟨pc, R, M, L⟩ := s
  obtain ⟨I1, I2⟩ := I
  dsimp only at I1 I2 hn
  have adv : ∀ (pc' : Nat) (R' M' : Nat → Int32), pc < pc' → pc' ≤ n → da_enc op pc' = da_enc op pc →
      da_I op n (pc', R', M', L) ∧ da_phi op n (pc', R', M', L) < da_phi op n (pc, R, M, L) := by
    intro pc' R' M' h1 h2 h3
    refine ⟨⟨h2, ?_⟩, ?_⟩
    · show ∀ b, b ∈ da_enc op pc' → _
      rw [h3]; exact I2
    · unfold da_phi
      dsimp only
      rw [h3]
      exact da_fall_adv op hn h1 (fun _ _ => rfl)
  by_cases h7 : op pc = 7
  · rw [da_st_7 op x y z (s := (pc, R, M, L)) h7]
    dsimp only
    exact adv _ _ _ (Nat.lt_succ_self _) hn (da_enc_o op (by rw [h7]; decide) (by rw [h7]; decide))
  by_cases h8 : op pc = 8
  · rw [da_st_8 op x y z (s := (pc, R, M, L)) h8]
    dsimp only
    have e1 : da_enc op (pc + 1) = da_enc op pc := da_enc_o op (by rw [h8]; decide) (by rw [h8]; decide)
    have := hS pc hn h8
    split
    · exact adv _ _ _ (by omega) (by omega) (this.2.trans e1)
    · exact adv _ _ _ (Nat.lt_succ_self _) hn e1
  by_cases h9 : op pc = 9
  · rw [da_st_9 op x y z (s := (pc, R, M, L)) h9]
    dsimp only
    obtain ⟨a, ha1, ha6, hx⟩ : ∃ a : Nat, 1 ≤ a ∧ a ≤ 6 ∧ x pc = nI a := by
      rcases hok pc hn with ⟨k, _, _, _, hk, _, _, _, ho, _⟩ | ⟨k, _, _, _, hk, _, _, ho, _⟩ | ⟨_, _, _, _, _, ho, _⟩ | ⟨a, h1, h2, _, h3⟩ | ho
      · rw [h9] at ho
        exact absurd ((nI_eq (a := 9) (by omega) (by omega)).mp ho) (by omega)
      · rw [h9] at ho
        exact absurd ((nI_eq (a := 9) (by omega) (by omega)).mp ho) (by omega)
      · rw [h9] at ho; exact absurd ho (by decide)
      · exact ⟨a, h1, h2, h3⟩
      · rw [h9] at ho; exact absurd ho (by decide)
    refine ⟨⟨hn, ?_⟩, ?_⟩
    · show ∀ b, b ∈ da_enc op (pc + 1) → ∃ p : Nat, 1 ≤ p ∧ p ≤ 6 ∧ upd L pc (x pc) b = nI p
      rw [da_enc_9 op h9]
      intro b hb
      rcases List.mem_cons.mp hb with e | e
      · rw [e]; exact ⟨a, ha1, ha6, by rw [pk_us, hx]⟩
      · have := (da_enc_mem op e).1
        rw [pk_un (by omega)]; exact I2 b e
    · unfold da_phi
      dsimp only
      rw [da_enc_9 op h9]
      refine da_fall_rep op hn h9 rfl hl (fun b hb => ?_) ?_
      · have := (da_enc_mem op hb).1
        show (upd L pc (x pc) b).toNatClampNeg = (L b).toNatClampNeg
        rw [pk_un (by omega)]
      · show (upd L pc (x pc) pc).toNatClampNeg ≤ 6
        rw [pk_us, hx, nI_clamp (by omega)]; exact ha6
  by_cases h10 : op pc = 10
  · cases he : da_enc op pc with
    | nil => exact absurd he (hE pc hn h10)
    | cons b st =>
      rw [da_st_10 op x y z (s := (pc, R, M, L)) h10 he]
      dsimp only
      obtain ⟨hb1, hb2, hb3⟩ := da_enc_hd op he
      obtain ⟨p, hp1, hp6, hp⟩ := I2 b (by rw [he]; simp)
      simp only [hp, da_dec1 hp1 hp6]
      have hst : ∀ c, c ∈ st → c < b := by
        intro c hc
        rw [← hb3] at hc
        exact (da_enc_mem op hc).1
      have hp' : ∀ c, c ∈ st → (upd L b (nI (p - 1)) c).toNatClampNeg = (L c).toNatClampNeg := by
        intro c hc
        have := hst c hc
        rw [pk_un (by omega)]
      by_cases c : 1 ≤ p - 1
      · rw [if_pos ((da_dec0 (by omega)).mpr c)]
        have e1 : da_enc op (b + 1) = da_enc op pc := by rw [da_enc_9 op hb2, hb3, he]
        refine ⟨⟨by show b + 1 ≤ n; omega, ?_⟩, ?_⟩
        · show ∀ d, d ∈ da_enc op (b + 1) → ∃ q : Nat, 1 ≤ q ∧ q ≤ 6 ∧ upd L b (nI (p - 1)) d = nI q
          intro d hd
          rw [e1] at hd
          by_cases e : d = b
          · rw [e, pk_us]; exact ⟨p - 1, by omega, by omega, rfl⟩
          · rw [pk_un e]; exact I2 d hd
        · unfold da_phi
          dsimp only
          rw [e1, he]
          refine da_fall_back op hn he (hl pc (by omega)) hp' ?_ ?_
          · show (upd L b (nI (p - 1)) b).toNatClampNeg = (L b).toNatClampNeg - 1
            rw [pk_us, hp, nI_clamp (by omega), nI_clamp (by omega)]
          · show 2 ≤ (L b).toNatClampNeg
            rw [hp, nI_clamp (by omega)]; omega
      · rw [if_neg (fun h => c ((da_dec0 (by omega)).mp h))]
        have e1 : da_enc op (pc + 1) = st := by rw [da_enc_10 op h10, he]; rfl
        refine ⟨⟨hn, ?_⟩, ?_⟩
        · show ∀ d, d ∈ da_enc op (pc + 1) → ∃ q : Nat, 1 ≤ q ∧ q ≤ 6 ∧ upd L b (nI (p - 1)) d = nI q
          intro d hd
          rw [e1] at hd
          have := hst d hd
          rw [pk_un (by omega)]
          exact I2 d (by rw [he]; exact List.mem_cons_of_mem _ hd)
        · unfold da_phi
          dsimp only
          rw [e1, he]
          exact da_fall_pop op hn h10 he hl hp'
  rw [da_st_t op x y z (s := (pc, R, M, L)) h7 h8 h9 h10]
  dsimp only
  exact adv _ _ _ (Nat.lt_succ_self _) hn (da_enc_o op h9 h10)

theorem da_run {n : Nat} (G : da_G op x y z n) : ∀ (m : Nat) (s : da_St), da_I op n s → da_phi op n s ≤ m →
    ∃ K, K ≤ m ∧ (da_tr op x y z s K).1 = n ∧ (∀ k, k < K → (da_tr op x y z s k).1 < n) ∧ (∀ k, k ≤ K → da_I op n (da_tr op x y z s k)) := by
  intro m
  induction m with
  | zero =>
    intro s I h
    have hn : s.1 = n := by
      by_cases c : s.1 < n
      · have := (da_stI op x y z G s I c).2; omega
      · have := I.1; omega
    exact ⟨0, by omega, hn, fun k hk => by omega, fun k hk => by rw [show k = 0 by omega]; exact I⟩
  | succ m ih =>
    intro s I h
    by_cases c : s.1 < n
    · obtain ⟨I', f⟩ := da_stI op x y z G s I c
      obtain ⟨K, k1, k2, k3, k4⟩ := ih _ I' (by omega)
      refine ⟨K + 1, by omega, by rw [← da_tr_s]; exact k2, fun k hk => ?_, fun k hk => ?_⟩
      · cases k with
        | zero => exact c
        | succ k => rw [← da_tr_s]; exact k3 k (by omega)
      · cases k with
        | zero => exact I
        | succ k => rw [← da_tr_s]; exact k4 k (by omega)
    · have := I.1
      exact ⟨0, by omega, by show s.1 = n; omega, fun k hk => by omega, fun k hk => by rw [show k = 0 by omega]; exact I⟩

theorem da_w0_le (l : Nat) : da_w0 l ≤ 36 := by unfold da_w0; (repeat' split) <;> omega
/-- the whole run: at most 864 steps -/
theorem da_run0 {n : Nat} (G : da_G op x y z n) (R M L : Nat → Int32) :
    ∃ K, K ≤ 864 ∧ (da_tr op x y z (0, R, M, L) K).1 = n ∧ (∀ k, k < K → (da_tr op x y z (0, R, M, L) k).1 < n) ∧
      (∀ k, k ≤ K → da_I op n (da_tr op x y z (0, R, M, L) k)) := by
  refine da_run op x y z G 864 (0, R, M, L) ⟨Nat.zero_le _, fun b hb => ?_⟩ ?_
  · have hb : b ∈ ([] : List Nat) := hb
    cases hb
  · have h := da_sm_bd (f := da_r op [] 0 (fun b => (L b).toNatClampNeg)) (c := 36) n (fun j _ => by
      show da_r0 0 j (da_enc op j).length ≤ 36
      unfold da_r0
      rw [if_pos (Nat.zero_le _)]
      exact da_w0_le _)
    have := G.1
    show da_sm (da_r op [] 0 (fun b => (L b).toNatClampNeg)) n ≤ 864
    omega
end
