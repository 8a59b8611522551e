theorem tc_min {a b : Nat} (ha : a < 2 ^ 31) (hb : b < 2 ^ 31) : (if nI b < nI a then nI b else nI a) = nI (min a b) := by
  rcases Nat.lt_or_ge b a with h | h
  · rw [if_pos ((nI_ltI hb ha).mpr h), Nat.min_eq_right (Nat.le_of_lt h)]
  · rw [if_neg (fun h2 => absurd ((nI_ltI hb ha).mp h2) (by omega)), Nat.min_eq_left h]
def tc_inc (n : Nat) (f : Nat → Nat) : Nat → Nat := fun k => if k < n then f k + 1 else f k
theorem tc_inc_0 (f : Nat → Nat) : tc_inc 0 f = f := by funext k; unfold tc_inc; rw [if_neg (Nat.not_lt_zero k)]
theorem tc_inc_s (n : Nat) (f : Nat → Nat) : tc_up (tc_inc n f) n (tc_inc n f n + 1) = tc_inc (n + 1) f := by
  funext k; unfold tc_up tc_inc
  by_cases h : k = n
  · subst h; rw [if_pos rfl, if_neg (Nat.lt_irrefl k), if_pos (Nat.lt_succ_self k)]
  · rw [if_neg h]
    by_cases h2 : k < n
    · rw [if_pos h2, if_pos (by omega)]
    · rw [if_neg h2, if_neg (by omega)]
def tc_fst (p : Nat → Bool) : Nat → Option Nat
  | 0 => none
  | n + 1 => match tc_fst p n with
    | some k => some k
    | none => if p n then some n else none
theorem tc_fst_none {p : Nat → Bool} : ∀ {n : Nat}, (∀ k, k < n → p k = false) → tc_fst p n = none
  | 0, _ => rfl
  | n + 1, h => by unfold tc_fst; rw [tc_fst_none (fun k hk => h k (by omega)), h n (by omega)]; rfl
theorem tc_fst_some {p : Nat → Bool} {i : Nat} (h : ∀ k, k < i → p k = false) (hi : p i = true) : ∀ {n : Nat}, i < n → tc_fst p n = some i
  | 0, q => absurd q (Nat.not_lt_zero i)
  | n + 1, q => by
    unfold tc_fst
    rcases Nat.lt_succ_iff_lt_or_eq.mp q with q2 | q2
    · rw [tc_fst_some h hi q2]
    · subst q2; rw [tc_fst_none h, hi]; rfl
theorem tc_fst_lt {p : Nat → Bool} : ∀ {n i : Nat}, tc_fst p n = some i → i < n
  | 0, _, h => by unfold tc_fst at h; cases h
  | n + 1, i, h => by
    unfold tc_fst at h
    cases e : tc_fst p n with
    | some k => rw [e] at h; cases h; exact Nat.lt_succ_of_lt (tc_fst_lt e)
    | none =>
      rw [e] at h
      cases e2 : p n with
      | true => rw [e2] at h; cases h; exact Nat.lt_succ_self n
      | false => rw [e2] at h; cases h
def tc_sumr (f : Nat → Nat) (a b : Nat) : Nat := fb_sm (fun k => f (a + k)) (b - a)
theorem tc_sumr_0 (f : Nat → Nat) (a : Nat) : tc_sumr f a a = 0 := by unfold tc_sumr; rw [Nat.sub_self]; rfl
theorem tc_sumr_s (f : Nat → Nat) {a b : Nat} (h : a ≤ b) : tc_sumr f a (b + 1) = tc_sumr f a b + f b := by
  unfold tc_sumr
  rw [show b + 1 - a = (b - a) + 1 by omega, fb_sm_succ, show a + (b - a) = b by omega]
theorem tc_sumr_le {f : Nat → Nat} (h : ∀ k, f k ≤ 1000) (a b : Nat) : tc_sumr f a b ≤ (b - a) * 1000 := fb_sm_bound (fun k _ => h _)
theorem tc_no_next {p : Nat → Bool} {i : Nat} (h : ∀ k, k < i → p k = false) (hi : p i = false) : ∀ k, k < i + 1 → p k = false := fun k hk => by
  rcases Nat.lt_succ_iff_lt_or_eq.mp hk with q | q
  · exact h k q
  · rw [q]; exact hi
-- laying a line
def tc_fg {α : Type} (n : Nat) (g f : Nat → α) : Nat → α := fun k => if k < n then g k else f k
theorem tc_fg_0 {α : Type} (g f : Nat → α) : tc_fg 0 g f = f := by funext k; unfold tc_fg; rw [if_neg (Nat.not_lt_zero k)]
theorem tc_fg_s {α : Type} (n : Nat) (g f : Nat → α) {x : α} (hx : x = g n) : tc_up (tc_fg n g f) n x = tc_fg (n + 1) g f := by
  funext k; unfold tc_up tc_fg
  by_cases h : k = n
  · subst h; rw [if_pos rfl, if_pos (Nat.lt_succ_self k), hx]
  · rw [if_neg h]
    by_cases h2 : k < n
    · rw [if_pos h2, if_pos (by omega)]
    · rw [if_neg h2, if_neg (by omega)]
