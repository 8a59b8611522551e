section
/-! A START THAT THE PREMISES ALLOW, AT WHICH THE CLAIM FALLS: the witness's own start, with one class more at the end of the table (number 25: an array class of int like number 18, but with a clone of its own, which never ends: goto 0), and with the static array AT_FIRST of that class. -/
def tf_clone : Method := Lib.HandJ.method "clone" "()Ljava/lang/Object;" [] (some (.object "java/lang/Object")) 0x1 1 ⟨#[0xa7, 0x00, 0x00]⟩
def tf_odd : Class := { start1.cArr "[I" 17 .int with interfaces := #[13], methods := #[tf_clone] }
def tf_vm : Vm := { start1.about.vm with classes := start1.about.vm.classes.push tf_odd }
def tf_about : State := { start1.about with vm := tf_vm, heap := start1.about.heap.modify 3 fun c => { c with cls := 25 } }
def tf_same : Jvm.Cond → Bool
  | .code y _ _ _ => match start1.about.methodNamed? y with
    | some m => decide (tf_about.methodNamed? y = some m) && decide (m.cls < 25)
    | none => false
  | _ => true
theorem tf_size : start1.about.vm.classes.size = 25 := by decide +kernel
theorem tf_push (vm : Vm) (k : Class) (m : MethodId) (h : m.cls < vm.classes.size) : ({ vm with classes := vm.classes.push k } : Vm).method? m = vm.method? m := by
  have hn : m.cls ≠ vm.classes.size := Nat.ne_of_lt h
  simp [Vm.method?, Array.getElem?_push, hn]
theorem tf_code {y : MethodName} {bytes : ByteArray} {maxL : Nat} {ret : Option FieldType} (h : (Cond.code y bytes maxL ret).before start1.args0 start1.about = true)
    (hs : tf_same (Cond.code y bytes maxL ret) = true) : (Cond.code y bytes maxL ret).before start1.args0 tf_about = true := by
  cases hq : start1.about.methodNamed? y with
  | none => simp only [tf_same, hq] at hs; cases hs
  | some m =>
    simp only [tf_same, hq, Bool.and_eq_true, decide_eq_true_eq] at hs
    have h2 : tf_about.vm.method? m = start1.about.vm.method? m := tf_push _ _ m (by rw [tf_size]; exact hs.2)
    simp only [Cond.before, Cond.holds, Cond.value, hq, hs.1, Option.bind_some, h2] at h ⊢
    exact h
theorem tf_codes {l : List Jvm.Cond} (h : ∀ c ∈ l, c.before start1.args0 start1.about = true) (hs : l.all tf_same = true) : ∀ c ∈ l.filter su_isCode, c.before start1.args0 tf_about = true := by
  intro c hc
  obtain ⟨h1, h2⟩ := List.mem_filter.mp hc
  have h3 := List.all_eq_true.mp hs c h1
  have h4 := h c h1
  cases c <;> first | exact tf_code h4 h3 | (exact absurd h2 (by simp [su_isCode]))
end
section
/-! From that start the machine comes into the odd clone, and never leaves it. -/
def tf_in : List Frame → Bool
  | .throwing _ :: _ => false
  | _ :: _ :: _ => true
  | _ => false
def tf_good (s : State) : Bool := tf_in s.frames && (decide (s.status = .running) && (decide (s.curStatus? = some .runnable) && s.alone))
def tf_at (tb : Tables) (e : Env) (s : State) : Bool := match s.frames with
  | .java f :: _ => (match overridden tb e s f with
      | none => true
      | some _ => false) && (decide (f.pc = 0) && match (s.code? f.method).map fun c => decode c.code f.pc with
      | some (.ok (.goto o, _)) => decide (o = 0)
      | _ => false)
  | _ => false
def tf_run (tb : Tables) (e : Env) : Nat → State → Bool
  | 0, _ => false
  | n + 1, s => match tf_good s with
    | true => (match tf_at tb e s with
      | true => true
      | false => tf_run tb e n (stepThread tb e s).1)
    | false => false
theorem tf_good_spec {s : State} (h : tf_good s = true) : tf_in s.frames = true ∧ s.goesOn := by
  simp only [tf_good, Bool.and_eq_true, decide_eq_true_eq] at h
  exact ⟨h.1, h.2.1, h.2.2.1, h.2.2.2⟩
theorem tf_not_ended {s : State} {o : Outcome} (h : tf_in s.frames = true) : ¬ Ended s Lib.HandBits.below0 o := by
  intro he
  cases o with
  | threw a =>
    have h2 : s.frames = .throwing a :: Lib.HandBits.below0 := he
    rw [h2] at h; cases h
  | returned v =>
    have h2 : s.frames = [.native { method := ⟨0, 0⟩, args := #[], awaiting := false, answer := some (.returned v) }] := he
    rw [h2] at h; cases h
theorem tf_still {s : State} {f : JFrame} {rest : List Frame} (h : s.frames = .java f :: rest) {g : JFrame → JFrame} (hg : g f = f) : s.modifyTopJava g = s := by
  have ht : (s.threads.modify s.cur fun t => match t.frames with
      | .java f :: rest => { t with frames := .java (g f) :: rest }
      | _ => t) = s.threads := by
    apply Array.ext_getElem?
    intro i
    rw [Array.getElem?_modify]
    split
    · rename_i hi
      subst hi
      cases hq : s.threads[s.cur]? with
      | none => rfl
      | some t =>
        have h1 : t.frames = .java f :: rest := by
          have h2 := h
          unfold State.frames at h2
          rw [hq] at h2
          exact h2
        simp only [Option.map_some, h1, hg]
        rw [← h1]
    · rfl
  exact congrArg (fun th => ({ s with threads := th } : State)) ht
theorem tf_loop {s : State} (h : tf_at start1.p0.tables start1.e0 s = true) : (stepThread start1.p0.tables start1.e0 s).1 = s := by
  unfold tf_at at h
  split at h
  · rename_i f r hf
    rw [Bool.and_eq_true, Bool.and_eq_true, decide_eq_true_eq] at h
    obtain ⟨h1, h2, h3⟩ := h
    have ho : overridden start1.p0.tables start1.e0 s f = none := by
      cases hq : overridden start1.p0.tables start1.e0 s f with
      | none => rfl
      | some z => rw [hq] at h1; cases h1
    split at h3
    · rename_i o len hd
      rw [decide_eq_true_eq] at h3
      subst h3
      have hr : ∃ acts, (start1.p0.tables.exec (.goto 0)).run start1.e0 s = .ctl (.branch 0) s acts := ⟨_, rfl⟩
      obtain ⟨acts, hr⟩ := hr
      have htop : s.topJava? = some f := by unfold State.topJava?; rw [hf]
      unfold stepThread
      rw [hf]
      simp only [ho, hd]
      rw [hr]
      simp only [afterInstr, htop]
      rw [if_neg (by omega)]
      exact tf_still hf (by rw [h2]; cases f; cases h2; rfl)
    · cases h3
  · cases h
theorem tf_never : ∀ (n : Nat) (s : State), tf_run start1.p0.tables start1.e0 n s = true → ∀ (k : Nat) (o : Outcome), ¬ Ended (stepsAlone start1.p0.tables start1.e0 k s) Lib.HandBits.below0 o := by
  intro n
  induction n with
  | zero => intro s h; cases h
  | succ n ih =>
    intro s h k o
    cases hg : tf_good s with
    | false => simp only [tf_run, hg] at h; cases h
    | true =>
      obtain ⟨hin, hgo⟩ := tf_good_spec hg
      cases ha : tf_at start1.p0.tables start1.e0 s with
      | true =>
        have hs : ∀ j, stepsAlone start1.p0.tables start1.e0 j s = s := by
          intro j
          induction j with
          | zero => rfl
          | succ j ij => rw [stepsAlone_succ _ hgo, tf_loop ha]; exact ij
        rw [hs k]
        exact tf_not_ended hin
      | false =>
        simp only [tf_run, hg, ha] at h
        cases k with
        | zero => exact tf_not_ended hin
        | succ k => rw [stepsAlone_succ _ hgo]; exact ih _ h k o
set_option maxRecDepth 16384 in
theorem tf_runs : tf_run start1.p0.tables start1.e0 60 tf_about = true := by decide +kernel
end
section
set_option maxRecDepth 16384 in
theorem tf_o_1_0 : (tables_1_1.take 40).all (fun c => su_isCode c || c.before start1.args0 tf_about) = true := by decide +kernel
set_option maxRecDepth 16384 in
theorem tf_o_1_1 : ((tables_1_1.drop 40).take 40).all (fun c => su_isCode c || c.before start1.args0 tf_about) = true := by decide +kernel
set_option maxRecDepth 16384 in
theorem tf_o_1_2 : (((tables_1_1.drop 40).drop 40).take 40).all (fun c => su_isCode c || c.before start1.args0 tf_about) = true := by decide +kernel
set_option maxRecDepth 16384 in
theorem tf_o_1_3 : ((((tables_1_1.drop 40).drop 40).drop 40).take 40).all (fun c => su_isCode c || c.before start1.args0 tf_about) = true := by decide +kernel
set_option maxRecDepth 16384 in
theorem tf_o_1_4 : (((((tables_1_1.drop 40).drop 40).drop 40).drop 40).take 40).all (fun c => su_isCode c || c.before start1.args0 tf_about) = true := by decide +kernel
set_option maxRecDepth 16384 in
theorem tf_o_1_5 : (((((tables_1_1.drop 40).drop 40).drop 40).drop 40).drop 40).all (fun c => su_isCode c || c.before start1.args0 tf_about) = true := by decide +kernel
theorem tf_o_1 : tables_1_1.all (fun c => su_isCode c || c.before start1.args0 tf_about) = true := (start1.su_all_split _ 40 tables_1_1 tf_o_1_0 (start1.su_all_split _ 40 (tables_1_1.drop 40) tf_o_1_1 (start1.su_all_split _ 40 ((tables_1_1.drop 40).drop 40) tf_o_1_2 (start1.su_all_split _ 40 (((tables_1_1.drop 40).drop 40).drop 40) tf_o_1_3 (start1.su_all_split _ 40 ((((tables_1_1.drop 40).drop 40).drop 40).drop 40) tf_o_1_4 tf_o_1_5)))))
set_option maxRecDepth 16384 in
theorem tf_s_1 : tables_1_1.all tf_same = true := by decide +kernel
theorem tf_w_1 : ∀ c ∈ tables_1_1, c.before start1.args0 tf_about = true := fun c h => su_words tf_o_1 (tf_codes start1.words_1 tf_s_1) c h
end
section
set_option maxRecDepth 16384 in
theorem tf_o_2_0 : (tables_1_2.take 40).all (fun c => su_isCode c || c.before start1.args0 tf_about) = true := by decide +kernel
set_option maxRecDepth 16384 in
theorem tf_o_2_1 : ((tables_1_2.drop 40).take 40).all (fun c => su_isCode c || c.before start1.args0 tf_about) = true := by decide +kernel
set_option maxRecDepth 16384 in
theorem tf_o_2_2 : (((tables_1_2.drop 40).drop 40).take 40).all (fun c => su_isCode c || c.before start1.args0 tf_about) = true := by decide +kernel
set_option maxRecDepth 16384 in
theorem tf_o_2_3 : ((((tables_1_2.drop 40).drop 40).drop 40).take 40).all (fun c => su_isCode c || c.before start1.args0 tf_about) = true := by decide +kernel
set_option maxRecDepth 16384 in
theorem tf_o_2_4 : (((((tables_1_2.drop 40).drop 40).drop 40).drop 40).take 40).all (fun c => su_isCode c || c.before start1.args0 tf_about) = true := by decide +kernel
set_option maxRecDepth 16384 in
theorem tf_o_2_5 : (((((tables_1_2.drop 40).drop 40).drop 40).drop 40).drop 40).all (fun c => su_isCode c || c.before start1.args0 tf_about) = true := by decide +kernel
theorem tf_o_2 : tables_1_2.all (fun c => su_isCode c || c.before start1.args0 tf_about) = true := (start1.su_all_split _ 40 tables_1_2 tf_o_2_0 (start1.su_all_split _ 40 (tables_1_2.drop 40) tf_o_2_1 (start1.su_all_split _ 40 ((tables_1_2.drop 40).drop 40) tf_o_2_2 (start1.su_all_split _ 40 (((tables_1_2.drop 40).drop 40).drop 40) tf_o_2_3 (start1.su_all_split _ 40 ((((tables_1_2.drop 40).drop 40).drop 40).drop 40) tf_o_2_4 tf_o_2_5)))))
set_option maxRecDepth 16384 in
theorem tf_s_2 : tables_1_2.all tf_same = true := by decide +kernel
theorem tf_w_2 : ∀ c ∈ tables_1_2, c.before start1.args0 tf_about = true := fun c h => su_words tf_o_2 (tf_codes start1.words_2 tf_s_2) c h
end
section
set_option maxRecDepth 16384 in
theorem tf_o_3_0 : (tables_1_3.take 40).all (fun c => su_isCode c || c.before start1.args0 tf_about) = true := by decide +kernel
set_option maxRecDepth 16384 in
theorem tf_o_3_1 : ((tables_1_3.drop 40).take 40).all (fun c => su_isCode c || c.before start1.args0 tf_about) = true := by decide +kernel
set_option maxRecDepth 16384 in
theorem tf_o_3_2 : (((tables_1_3.drop 40).drop 40).take 40).all (fun c => su_isCode c || c.before start1.args0 tf_about) = true := by decide +kernel
set_option maxRecDepth 16384 in
theorem tf_o_3_3 : ((((tables_1_3.drop 40).drop 40).drop 40).take 40).all (fun c => su_isCode c || c.before start1.args0 tf_about) = true := by decide +kernel
set_option maxRecDepth 16384 in
theorem tf_o_3_4 : (((((tables_1_3.drop 40).drop 40).drop 40).drop 40).take 40).all (fun c => su_isCode c || c.before start1.args0 tf_about) = true := by decide +kernel
set_option maxRecDepth 16384 in
theorem tf_o_3_5 : (((((tables_1_3.drop 40).drop 40).drop 40).drop 40).drop 40).all (fun c => su_isCode c || c.before start1.args0 tf_about) = true := by decide +kernel
theorem tf_o_3 : tables_1_3.all (fun c => su_isCode c || c.before start1.args0 tf_about) = true := (start1.su_all_split _ 40 tables_1_3 tf_o_3_0 (start1.su_all_split _ 40 (tables_1_3.drop 40) tf_o_3_1 (start1.su_all_split _ 40 ((tables_1_3.drop 40).drop 40) tf_o_3_2 (start1.su_all_split _ 40 (((tables_1_3.drop 40).drop 40).drop 40) tf_o_3_3 (start1.su_all_split _ 40 ((((tables_1_3.drop 40).drop 40).drop 40).drop 40) tf_o_3_4 tf_o_3_5)))))
set_option maxRecDepth 16384 in
theorem tf_s_3 : tables_1_3.all tf_same = true := by decide +kernel
theorem tf_w_3 : ∀ c ∈ tables_1_3, c.before start1.args0 tf_about = true := fun c h => su_words tf_o_3 (tf_codes start1.words_3 tf_s_3) c h
set_option maxRecDepth 16384 in
theorem tf_o_4_0 : (tables_1_4.take 40).all (fun c => su_isCode c || c.before start1.args0 tf_about) = true := by decide +kernel
set_option maxRecDepth 16384 in
theorem tf_o_4_1 : (tables_1_4.drop 40).all (fun c => su_isCode c || c.before start1.args0 tf_about) = true := by decide +kernel
theorem tf_o_4 : tables_1_4.all (fun c => su_isCode c || c.before start1.args0 tf_about) = true := (start1.su_all_split _ 40 tables_1_4 tf_o_4_0 tf_o_4_1)
set_option maxRecDepth 16384 in
theorem tf_s_4 : tables_1_4.all tf_same = true := by decide +kernel
theorem tf_w_4 : ∀ c ∈ tables_1_4, c.before start1.args0 tf_about = true := fun c h => su_words tf_o_4 (tf_codes start1.words_4 tf_s_4) c h
end
section
/-! The claim is false at that start. -/
theorem tf_word : (Cond.code x code maxLocals ret).before start1.args0 tf_about = true := tf_code start1.word_code (by decide +kernel)
theorem tf_words : ∀ c ∈ (Cond.code x code maxLocals ret :: tables_1), c.before start1.args0 tf_about = true := by
  intro c hc
  rcases List.mem_cons.mp hc with h | h
  · rw [h]; exact tf_word
  · have h1 : c ∈ tables_1_1 ++ (tables_1_2 ++ (tables_1_3 ++ tables_1_4)) := h
    rcases List.mem_append.mp h1 with h2 | h1
    · exact tf_w_1 c h2
    rcases List.mem_append.mp h1 with h2 | h1
    · exact tf_w_2 c h2
    rcases List.mem_append.mp h1 with h2 | h1
    · exact tf_w_3 c h2
    exact tf_w_4 c h1
set_option maxRecDepth 16384 in
theorem tf_start : AtStart classFile x code maxLocals ret World_1 tables_1 room_1 Calls_1 rest_1 Pre_1 launch0 start1.p0 start1.e0 tf_about ⟨0, 0⟩ start1.args0 Lib.HandBits.below0 :=
  ⟨lists_1, trivial, launch0.admits_env _ _ _, launch0.least_env, fairChoices_fair.cas, fairChoices_fair.clock, rfl, by decide +kernel, by decide +kernel,
    (Spec.applies_iff rfl).mpr ⟨rfl, rfl, rfl, by decide +kernel, by decide +kernel, by decide +kernel, launch0.hasRoom_least _ room_1 (by decide +kernel) (by decide +kernel) (by decide +kernel) (by decide +kernel) (by decide +kernel) (by decide +kernel), atoms_intro tf_words⟩,
    trivial, (show rest_1_c.before start1.args0 tf_about = true by decide +kernel), (show (Cond.and given_1 narrow_1).before start1.args0 tf_about = true by decide +kernel)⟩
theorem tf_flags : launch0.flags = flags0 := rfl
/-- NO PROOF OF THE CLAIM CAN BE: from this start, which meets every premise, the law's method never ends. -/
theorem tf_refuted_1 : ¬ Claimed_1_1 := by
  intro hA
  obtain ⟨hL, hW, had, -, hcas, hclk, hfr, hfit, hheap, happ, hcalls, hrest, hpre⟩ := tf_start
  obtain ⟨k, q, -, -, hend, -⟩ := hA launch0 tf_flags hL hW start1.p0 start1.e0 had hcas hclk tf_about ⟨0, 0⟩ start1.args0 Lib.HandBits.below0 hfr hfit hheap happ ⟨hcalls, hrest, hpre⟩
  exact tf_never 60 tf_about tf_runs k q hend
theorem tf_refuted_2 : ¬ Claimed_1_2 := by
  intro hA
  obtain ⟨hL, hW, had, -, hcas, hclk, hfr, hfit, hheap, happ, hcalls, hrest, hpre⟩ := tf_start
  obtain ⟨k, q, -, -, hend, -⟩ := hA launch0 tf_flags hL hW start1.p0 start1.e0 had hcas hclk tf_about ⟨0, 0⟩ start1.args0 Lib.HandBits.below0 hfr hfit hheap happ ⟨hcalls, hrest, hpre⟩
  exact tf_never 60 tf_about tf_runs k q hend
theorem tf_refuted : ¬ (Claimed_1_1 ∧ Claimed_1_2) := fun h => tf_refuted_1 h.1
end
