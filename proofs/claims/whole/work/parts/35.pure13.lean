theorem tc_flu_s {α : Type} (n : Nat) (v : α) (f : Nat → α) : tc_up (tc_fl n v f) n v = tc_fl (n + 1) v f := by
  funext k; unfold tc_up tc_fl
  by_cases h : k = n
  · rw [if_pos h, if_pos (by omega)]
  · rw [if_neg h]
    by_cases h2 : k < n
    · rw [if_pos h2, if_pos (by omega)]
    · rw [if_neg h2, if_neg (by omega)]
def tc_bw (P : tc_Pl) (bo : Nat → Option Nat) (k : Nat) : Nat := match bo k with
  | none => 0
  | some b => b - tcMn P k
def tc_ws (P : tc_Pl) (bo : Nat → Option Nat) : Nat := fb_sm (tc_bw P bo) (tcPe P)
theorem tc_bw_n {P : tc_Pl} {bo : Nat → Option Nat} {k : Nat} (h : bo k = none) : tc_bw P bo k = 0 := by unfold tc_bw; rw [h]
theorem tc_bw_s {P : tc_Pl} {bo : Nat → Option Nat} {k b : Nat} (h : bo k = some b) : tc_bw P bo k = b - tcMn P k := by unfold tc_bw; rw [h]
def tc_BO (P : tc_Pl) (bo : Nat → Option Nat) : Prop := ∀ k, k < tcPe P → ∀ b, bo k = some b → tcMn P k ≤ b ∧ b < 100000
def tc_wanted (P : tc_Pl) (j n : Nat) : Prop := ∃ k, k < n ∧ (tcFr P k = j ∨ tcTo P k = j)
