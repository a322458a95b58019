/-! The reference's search for the beginning of a loop -/
section
variable (op : Nat → Int32)
def da_bg (m c : Nat) : Nat := (da_enc op m).getD (c - 1) 0
theorem da_getT (l : List Nat) (k : Nat) : l.tail.getD k 0 = l.getD (k + 1) 0 := by
  cases l <;> simp
theorem da_bg_0 (c : Nat) : da_bg op 0 c = 0 := by
  unfold da_bg; rw [da_enc]; simp
theorem da_bg_10 {m c : Nat} (h : op m = 10) (hc : 1 ≤ c) : da_bg op (m + 1) c = da_bg op m (c + 1) := by
  unfold da_bg
  rw [da_enc_10 op h, da_getT, show c - 1 + 1 = c + 1 - 1 by omega]
theorem da_bg_9a {m : Nat} (h : op m = 9) : da_bg op (m + 1) 1 = m := by
  unfold da_bg
  rw [da_enc_9 op h]; rfl
theorem da_bg_9b {m c : Nat} (h : op m = 9) (hc : 2 ≤ c) : da_bg op (m + 1) c = da_bg op m (c - 1) := by
  unfold da_bg
  rw [da_enc_9 op h, show c - 1 = (c - 1 - 1) + 1 by omega]
  rfl
theorem da_bg_o {m c : Nat} (h9 : ¬ op m = 9) (h10 : ¬ op m = 10) : da_bg op (m + 1) c = da_bg op m c := by
  unfold da_bg
  rw [da_enc_o op h9 h10]
theorem da_bg_hd (m : Nat) : da_bg op m 1 = da_hd op m := by
  unfold da_bg da_hd
  cases da_enc op m <;> rfl
end
