theorem tc_day_s {P : tc_Pl} {L : List Nat} {i y : Nat} {r : tc_RS} {up : Bool} {en : Nat} (hy : L[i]? = some y) (hag : tc_ag0 (tcPe P) r (tc_ds P (L.take i)).1) (hup : up = (tc_ds P (L.take i)).2.1) (hen : en = (tc_ds P (L.take i)).2.2) : tc_ag0 (tcPe P) (tc_ride P up (max y en) r) (tc_ds P (L.take (i + 1))).1 ∧ (!up) = (tc_ds P (L.take (i + 1))).2.1 ∧ tcTi (tc_ride P up (max y en) r) = (tc_ds P (L.take (i + 1))).2.2 := by
  rw [tc_ds_s hy]
  generalize tc_ds P (L.take i) = x at hag hup hen ⊢
  obtain ⟨r2, up2, en2⟩ := x
  dsimp only at hag hup hen
  subst hup hen
  have h := tc_ag_ride hag up (max y en)
  exact ⟨tc_ag_0 h, rfl, tc_ag_ti h⟩
theorem tc_day_end {P : tc_Pl} {L : List Nat} {i : Nat} {r : tc_RS} {en : Nat} (hi : i = L.length) (hag : tc_ag0 (tcPe P) r (tc_ds P (L.take i)).1) (hen : en = (tc_ds P (L.take i)).2.2) : tcWa r + fb_sm (fun k => if tcSt r k = 0 then en - tcMn P k else 0) (tcPe P) = tc_dv P L := by
  rw [hi, List.take_length] at hag hen
  show tcWa r + tc_still P (tcSt r) en = _
  rw [hag.2, tc_still_cong (fun k hk => (hag.1 k hk).1), hen]
  rfl
theorem tc_ag_z {pe : Nat} (st : Nat → Nat) (bo ca : Nat → Option Nat) (h : pe ≤ 60) : tc_ag0 pe (tc_fl 60 0 st, tc_fl 60 none bo, tc_fl 60 none ca, 0, 0, 0, 0, 0, 0, 0, 0) tc_z :=
  ⟨fun k hk => ⟨if_pos (by omega), if_pos (by omega), if_pos (by omega)⟩, rfl⟩
theorem tc_fl_3 {st : Nat → Nat} (h : ∀ k, st k ≤ 3) : ∀ k, tc_fl 60 0 st k ≤ 3 := fun k => by unfold tc_fl; split; exact Nat.zero_le _; exact h k
theorem tc_fl_st {st : Nat → Nat} {k pe si : Nat} (h : k < pe) (hp : pe ≤ 60) (hs : 0 < si) : ¬ tc_fl 60 0 st k = si := by unfold tc_fl; rw [if_pos (by omega)]; omega
def tc_bs (kk : Int32) (f : Nat → Nat) : Nat → Option Nat × Nat
  | 0 => (none, 0)
  | b + 1 => if tc_bc (nI b) = kk ∧ ((tc_bs kk f b).1 = none ∨ nI (f b) < nI (tc_bs kk f b).2) then (some b, f b) else tc_bs kk f b
theorem tc_bs_lt (kk : Int32) (f : Nat → Nat) : ∀ n b, (tc_bs kk f n).1 = some b → b < n
  | 0, b, h => by unfold tc_bs at h; cases h
  | n + 1, b, h => by
    unfold tc_bs at h
    split at h
    · cases h; exact Nat.lt_succ_self _
    · exact Nat.lt_succ_of_lt (tc_bs_lt kk f n b h)
theorem tc_pow8 {l : Nat} (h : l ≤ 8) : 2 ^ l ≤ 256 := Nat.pow_le_pow_right (by decide) h
