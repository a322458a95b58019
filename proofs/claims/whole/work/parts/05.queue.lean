/-! Queues, stacks of running loops, what the two halves say of the trace -/
def da_ls (f : Nat → List Int32) : Nat → Nat → List Int32
  | 0, _ => []
  | m + 1, k => f k ++ da_ls f m (k + 1)
theorem da_ls_s (f : Nat → List Int32) : ∀ m k, da_ls f (m + 1) k = da_ls f m k ++ f (k + m) := by
  intro m
  induction m with
  | zero => intro k; show f k ++ [] = [] ++ f (k + 0); simp
  | succ m ih =>
    intro k
    show f k ++ da_ls f (m + 1) (k + 1) = (f k ++ da_ls f m (k + 1)) ++ f (k + (m + 1))
    rw [ih (k + 1), List.append_assoc, show k + 1 + m = k + (m + 1) by omega]
theorem da_ls_c (f : Nat → List Int32) (e a : Nat) (h : e < a) : da_ls f (a - e) e = f e ++ da_ls f (a - (e + 1)) (e + 1) := by
  rw [show a - e = (a - (e + 1)) + 1 by omega]; rfl
theorem da_ls_e (f : Nat → List Int32) (e a : Nat) (h : e ≤ a) : da_ls f (a + 1 - e) e = da_ls f (a - e) e ++ f a := by
  rw [show a + 1 - e = (a - e) + 1 by omega, da_ls_s, show e + (a - e) = a by omega]

def da_AR (f : Nat → Int32) : Nat → List Int32 → Prop
  | _, [] => True
  | h, v :: q => f (h % 4) = v ∧ da_AR f (h + 1) q
theorem da_AR_push {f : Nat → Int32} {v : Int32} : ∀ (q : List Int32) (h : Nat), q.length < 4 → da_AR f h q → da_AR (upd f ((h + q.length) % 4) v) h (q ++ [v]) := by
  intro q
  induction q with
  | nil => intro h _ _; exact ⟨pk_us, trivial⟩
  | cons w q ih =>
    intro h hl hA
    rw [List.length_cons] at hl
    obtain ⟨h1, h2⟩ := hA
    have := ih (h + 1) (by omega) h2
    refine ⟨?_, ?_⟩
    · rw [pk_un]
      · exact h1
      · rw [List.length_cons]; omega
    · rw [List.length_cons, show h + (q.length + 1) = h + 1 + q.length by omega]; exact this

def da_SK (ls pl L : Nat → Int32) (base : Nat) : List Nat → Prop
  | [] => True
  | b :: st => ls (base + st.length) = nI (b + 1) ∧ pl (base + st.length) = L b ∧ da_SK ls pl L base st
theorem da_SK_c {ls pl L ls' pl' L' : Nat → Int32} {base : Nat} : ∀ st : List Nat, (∀ j, base ≤ j → j < base + st.length → ls' j = ls j) →
    (∀ j, base ≤ j → j < base + st.length → pl' j = pl j) → (∀ b, b ∈ st → L' b = L b) → da_SK ls pl L base st → da_SK ls' pl' L' base st := by
  intro st
  induction st with
  | nil => intro _ _ _ _; trivial
  | cons b st ih =>
    intro h1 h2 h3 h
    rw [List.length_cons] at h1 h2
    obtain ⟨a1, a2, a3⟩ := h
    refine ⟨?_, ?_, ih (fun j l r => h1 j l (by omega)) (fun j l r => h2 j l (by omega)) (fun c hc => h3 c (List.mem_cons_of_mem _ hc)) a3⟩
    · rw [h1 _ (by omega) (by omega)]; exact a1
    · rw [h2 _ (by omega) (by omega), h3 b List.mem_cons_self]; exact a2

section
variable (op x y z : Nat → Int32)
theorem da_ok_B {n : Nat} (h : ∀ i, i < n → da_ok op x y z i) : da_B op x y z n := by
  intro i hi
  rcases h i hi with ⟨k, a, b, c, hk, ha, hb, hc, ho, hx, hy, hz⟩ | ⟨k, a, b, hk, hk', ha, hb, ho, hx, hy⟩ | ⟨a, b, ha, hb, hb', ho, hx, hy⟩ | ⟨a, h1, h2, ho, hx⟩ | ho
  · rw [hx, hy, hz, nI_clamp (by omega), nI_clamp (by omega), nI_clamp (by omega)]
    exact ⟨fun _ => hb, fun _ => ha, fun _ => hc⟩
  · rw [hx, hy, nI_clamp (by omega), nI_clamp (by omega)]
    refine ⟨fun _ => hb, fun _ => ha, fun h4 => ?_⟩
    rw [ho] at h4
    exact absurd ((nI_leI (b := 4) (by omega) (by omega)).mp h4) (by omega)
  · rw [hx, nI_clamp (by omega)]
    refine ⟨fun h4 => ?_, fun _ => ha, fun h4 => ?_⟩
    · rw [ho] at h4; exact absurd h4 (by decide)
    · rw [ho] at h4; exact absurd h4 (by decide)
  · refine ⟨fun h4 => ?_, fun h4 => ?_, fun h4 => ?_⟩
    · rw [ho] at h4; exact absurd h4 (by decide)
    · rw [ho] at h4; exact absurd h4 (by decide)
    · rw [ho] at h4; exact absurd h4 (by decide)
  · refine ⟨fun h4 => ?_, fun h4 => ?_, fun h4 => ?_⟩
    · rw [ho] at h4; exact absurd h4 (by decide)
    · rw [ho] at h4; exact absurd h4 (by decide)
    · rw [ho] at h4; exact absurd h4 (by decide)

/-- the five kinds -/
def da_kT (i : Nat) : Prop := op i ≤ 6 ∧ ¬ op i = 7 ∧ ¬ op i = 8 ∧ ¬ op i = 9 ∧ ¬ op i = 10 ∧ (∃ a : Nat, a < 8 ∧ x i = nI a) ∧ (∃ b : Nat, b < 8 ∧ y i = nI b) ∧
  (op i = 5 ∨ op i = 6 ∨ (op i ≤ 4 ∧ ¬ op i = 5 ∧ ¬ op i = 6 ∧ ∃ c : Nat, c < 8 ∧ z i = nI c))
theorem da_kind {i : Nat} (h : da_ok op x y z i) : da_kT op x y z i ∨ (op i = 7 ∧ (∃ a : Nat, a < 8 ∧ x i = nI a) ∧ (∃ b : Nat, b < 8 ∧ y i = nI b)) ∨
    (op i = 8 ∧ (∃ a : Nat, a < 8 ∧ x i = nI a) ∧ (∃ b : Nat, 1 ≤ b ∧ b ≤ 8 ∧ y i = nI b)) ∨ (op i = 9 ∧ ∃ a : Nat, 1 ≤ a ∧ a ≤ 6 ∧ x i = nI a) ∨ op i = 10 := by
  rcases h with ⟨k, a, b, c, hk, ha, hb, hc, ho, hx, hy, hz⟩ | ⟨k, a, b, hk, hk', ha, hb, ho, hx, hy⟩ | ⟨a, b, ha, hb, hb', ho, hx, hy⟩ | ⟨a, h1, h2, ho, hx⟩ | ho
  · left
    have hne : ∀ q : Nat, q < 11 → 4 < q → ¬ op i = nI q := by
      intro q hq hq4
      rw [ho, nI_eq (by omega) (by omega)]; omega
    refine ⟨?_, hne 7 (by omega) (by omega), hne 8 (by omega) (by omega), hne 9 (by omega) (by omega), hne 10 (by omega) (by omega), ⟨a, ha, hx⟩, ⟨b, hb, hy⟩, Or.inr (Or.inr ⟨?_, hne 5 (by omega) (by omega), hne 6 (by omega) (by omega), c, hc, hz⟩)⟩
    · rw [ho]; exact (nI_leI (b := 6) (by omega) (by omega)).mpr (by omega)
    · rw [ho]; exact (nI_leI (b := 4) (by omega) (by omega)).mpr (by omega)
  · by_cases h7 : k = 7
    · right; left
      exact ⟨by rw [ho, h7]; rfl, ⟨a, ha, hx⟩, ⟨b, hb, hy⟩⟩
    · left
      have hne : ∀ q : Nat, q < 11 → 6 < q → ¬ op i = nI q := by
        intro q hq hq4
        rw [ho, nI_eq (by omega) (by omega)]; omega
      refine ⟨?_, hne 7 (by omega) (by omega), hne 8 (by omega) (by omega), hne 9 (by omega) (by omega), hne 10 (by omega) (by omega), ⟨a, ha, hx⟩, ⟨b, hb, hy⟩, ?_⟩
      · rw [ho]; exact (nI_leI (b := 6) (by omega) (by omega)).mpr (by omega)
      · by_cases h5 : k = 5
        · left; rw [ho, h5]; rfl
        · right; left; rw [ho, show k = 6 by omega]; rfl
  · exact Or.inr (Or.inr (Or.inl ⟨ho, ⟨a, ha, hx⟩, ⟨b, hb, hb', hy⟩⟩))
  · exact Or.inr (Or.inr (Or.inr (Or.inl ⟨ho, a, h1, h2, hx⟩)))
  · exact Or.inr (Or.inr (Or.inr (Or.inr ho)))

theorem da_cl_in (i : Nat) (R : Nat → Int32) : ∃ j : Nat, j < 16 ∧ da_cl y z i R = nI j := pk_andE _ 4 (by decide)

/-- what the access half sends ahead -/
def da_nd (sd : Nat → Bool) (i : Nat) : Bool := decide (op i = 6) || decide (op i = 8) || (decide (op i ≤ 6) && sd (x i).toNatClampNeg)
def da_ov (s : da_St) : Int32 := if op s.1 = 8 then (if s.2.1 (x s.1).toNatClampNeg = 0 then y s.1 else 0) else da_tv op y z s.1 s.2.1 s.2.2.1
def da_fo (sd : Nat → Bool) (tr : Nat → da_St) (k : Nat) : List Int32 := if da_nd op x sd (tr k).1 = true then [da_ov op x y z (tr k)] else []
def da_fc (tr : Nat → da_St) (k : Nat) : List Int32 := if op (tr k).1 = 7 then [da_cl y z (tr k).1 (tr k).2.1] else []

theorem da_M_step (s : da_St) (c : Int32) (hc : ∃ j : Nat, j < 16 ∧ c = nI j) (h : op s.1 = 7 → ¬ da_cl y z s.1 s.2.1 = c) :
    (da_st op x y z s).2.2.1 c.toNatClampNeg = s.2.2.1 c.toNatClampNeg := by
  by_cases h7 : op s.1 = 7
  · rw [da_st_7 op x y z h7]
    dsimp only
    rw [pk_un]
    intro e
    obtain ⟨j, hj, rfl⟩ := hc
    obtain ⟨j', hj', e'⟩ := da_cl_in y z s.1 s.2.1
    rw [e', nI_clamp (by omega), nI_clamp (by omega)] at e
    exact h h7 (by rw [e', e])
  · by_cases h8 : op s.1 = 8
    · exact congrFun (congrArg (fun t : da_St => t.2.2.1) (da_st_8 op x y z h8)) _
    · by_cases h9 : op s.1 = 9
      · exact congrFun (congrArg (fun t : da_St => t.2.2.1) (da_st_9 op x y z h9)) _
      · by_cases h10 : op s.1 = 10
        · have e : (da_st op x y z s).2.2.1 = s.2.2.1 := by
            unfold da_st; simp only [if_neg h7, if_neg h8, if_neg h9, if_pos h10]
          rw [e]
        · exact congrFun (congrArg (fun t : da_St => t.2.2.1) (da_st_t op x y z h7 h8 h9 h10)) _
theorem da_M_ls (s0 : da_St) (c : Int32) (hc : ∃ j : Nat, j < 16 ∧ c = nI j) : ∀ m k, ¬ c ∈ da_ls (da_fc op y z (da_tr op x y z s0)) m k →
    (da_tr op x y z s0 (k + m)).2.2.1 c.toNatClampNeg = (da_tr op x y z s0 k).2.2.1 c.toNatClampNeg := by
  intro m
  induction m with
  | zero => intro k _; rfl
  | succ m ih =>
    intro k h
    rw [da_ls, List.mem_append] at h
    have h1 := ih (k + 1) (fun e => h (Or.inr e))
    rw [show k + (m + 1) = k + 1 + m by omega, h1]
    refine da_M_step op x y z _ c hc (fun h7 e => h (Or.inl ?_))
    unfold da_fc
    rw [if_pos h7, e]; exact List.mem_singleton_self _
end
