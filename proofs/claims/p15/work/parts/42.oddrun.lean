/-! From that start the machine comes into the odd clone, and never leaves it. -/
def tf_in : List Frame → Bool
  | .throwing _ :: _ => false
  | _ :: _ :: _ => true
  | _ => false
def tf_good (s : State) : Bool := tf_in s.frames && (decide (s.status = .running) && (decide (s.curStatus? = some .runnable) && s.alone))
def tf_at (tb : Tables) (e : Env) (s : State) : Bool := match s.frames with
  | .java f :: _ => (match overridden tb e s f with
      | none => true
      | some _ => false) && (decide (f.pc = 0) && match (s.code? f.method).map fun c => decode c.code f.pc with
      | some (.ok (.goto o, _)) => decide (o = 0)
      | _ => false)
  | _ => false
def tf_run (tb : Tables) (e : Env) : Nat → State → Bool
  | 0, _ => false
  | n + 1, s => match tf_good s with
    | true => (match tf_at tb e s with
      | true => true
      | false => tf_run tb e n (stepThread tb e s).1)
    | false => false
theorem tf_good_spec {s : State} (h : tf_good s = true) : tf_in s.frames = true ∧ s.goesOn := by
  simp only [tf_good, Bool.and_eq_true, decide_eq_true_eq] at h
  exact ⟨h.1, h.2.1, h.2.2.1, h.2.2.2⟩
theorem tf_not_ended {s : State} {o : Outcome} (h : tf_in s.frames = true) : ¬ Ended s Lib.HandBits.below0 o := by
  intro he
  cases o with
  | threw a =>
    have h2 : s.frames = .throwing a :: Lib.HandBits.below0 := he
    rw [h2] at h; cases h
  | returned v =>
    have h2 : s.frames = [.native { method := ⟨0, 0⟩, args := #[], awaiting := false, answer := some (.returned v) }] := he
    rw [h2] at h; cases h
theorem tf_still {s : State} {f : JFrame} {rest : List Frame} (h : s.frames = .java f :: rest) {g : JFrame → JFrame} (hg : g f = f) : s.modifyTopJava g = s := by
  have ht : (s.threads.modify s.cur fun t => match t.frames with
      | .java f :: rest => { t with frames := .java (g f) :: rest }
      | _ => t) = s.threads := by
    apply Array.ext_getElem?
    intro i
    rw [Array.getElem?_modify]
    split
    · rename_i hi
      subst hi
      cases hq : s.threads[s.cur]? with
      | none => rfl
      | some t =>
        have h1 : t.frames = .java f :: rest := by
          have h2 := h
          unfold State.frames at h2
          rw [hq] at h2
          exact h2
        simp only [Option.map_some, h1, hg]
        rw [← h1]
    · rfl
  exact congrArg (fun th => ({ s with threads := th } : State)) ht
theorem tf_loop {s : State} (h : tf_at start1.p0.tables start1.e0 s = true) : (stepThread start1.p0.tables start1.e0 s).1 = s := by
  unfold tf_at at h
  split at h
  · rename_i f r hf
    rw [Bool.and_eq_true, Bool.and_eq_true, decide_eq_true_eq] at h
    obtain ⟨h1, h2, h3⟩ := h
    have ho : overridden start1.p0.tables start1.e0 s f = none := by
      cases hq : overridden start1.p0.tables start1.e0 s f with
      | none => rfl
      | some z => rw [hq] at h1; cases h1
    split at h3
    · rename_i o len hd
      rw [decide_eq_true_eq] at h3
      subst h3
      have hr : ∃ acts, (start1.p0.tables.exec (.goto 0)).run start1.e0 s = .ctl (.branch 0) s acts := ⟨_, rfl⟩
      obtain ⟨acts, hr⟩ := hr
      have htop : s.topJava? = some f := by unfold State.topJava?; rw [hf]
      unfold stepThread
      rw [hf]
      simp only [ho, hd]
      rw [hr]
      simp only [afterInstr, htop]
      rw [if_neg (by omega)]
      exact tf_still hf (by rw [h2]; cases f; cases h2; rfl)
    · cases h3
  · cases h
theorem tf_never : ∀ (n : Nat) (s : State), tf_run start1.p0.tables start1.e0 n s = true → ∀ (k : Nat) (o : Outcome), ¬ Ended (stepsAlone start1.p0.tables start1.e0 k s) Lib.HandBits.below0 o := by
  intro n
  induction n with
  | zero => intro s h; cases h
  | succ n ih =>
    intro s h k o
    cases hg : tf_good s with
    | false => simp only [tf_run, hg] at h; cases h
    | true =>
      obtain ⟨hin, hgo⟩ := tf_good_spec hg
      cases ha : tf_at start1.p0.tables start1.e0 s with
      | true =>
        have hs : ∀ j, stepsAlone start1.p0.tables start1.e0 j s = s := by
          intro j
          induction j with
          | zero => rfl
          | succ j ij => rw [stepsAlone_succ _ hgo, tf_loop ha]; exact ij
        rw [hs k]
        exact tf_not_ended hin
      | false =>
        simp only [tf_run, hg, ha] at h
        cases k with
        | zero => exact tf_not_ended hin
        | succ k => rw [stepsAlone_succ _ hgo]; exact ih _ h k o
set_option maxRecDepth 16384 in
theorem tf_runs : tf_run start1.p0.tables start1.e0 60 tf_about = true := by decide +kernel
