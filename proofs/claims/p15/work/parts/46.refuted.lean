/-! The claim is false at that start. -/
theorem tf_word : (Cond.code x code maxLocals ret).before start1.args0 tf_about = true := tf_code start1.word_code (by decide +kernel)
theorem tf_words : ∀ c ∈ (Cond.code x code maxLocals ret :: tables_1), c.before start1.args0 tf_about = true := by
  intro c hc
  rcases List.mem_cons.mp hc with h | h
  · rw [h]; exact tf_word
  · have h1 : c ∈ tables_1_1 ++ (tables_1_2 ++ (tables_1_3 ++ tables_1_4)) := h
    rcases List.mem_append.mp h1 with h2 | h1
    · exact tf_w_1 c h2
    rcases List.mem_append.mp h1 with h2 | h1
    · exact tf_w_2 c h2
    rcases List.mem_append.mp h1 with h2 | h1
    · exact tf_w_3 c h2
    exact tf_w_4 c h1
set_option maxRecDepth 16384 in
theorem tf_start : AtStart classFile x code maxLocals ret World_1 tables_1 room_1 Calls_1 rest_1 Pre_1 launch0 start1.p0 start1.e0 tf_about ⟨0, 0⟩ start1.args0 Lib.HandBits.below0 :=
  ⟨lists_1, trivial, launch0.admits_env _ _ _, launch0.least_env, fairChoices_fair.cas, fairChoices_fair.clock, rfl, by decide +kernel, by decide +kernel,
    (Spec.applies_iff rfl).mpr ⟨rfl, rfl, rfl, by decide +kernel, by decide +kernel, by decide +kernel, launch0.hasRoom_least _ room_1 (by decide +kernel) (by decide +kernel) (by decide +kernel) (by decide +kernel) (by decide +kernel) (by decide +kernel), atoms_intro tf_words⟩,
    trivial, (show rest_1_c.before start1.args0 tf_about = true by decide +kernel), (show (Cond.and given_1 narrow_1).before start1.args0 tf_about = true by decide +kernel)⟩
theorem tf_flags : launch0.flags = flags0 := rfl
/-- NO PROOF OF THE CLAIM CAN BE: from this start, which meets every premise, the law's method never ends. -/
theorem tf_refuted_1 : ¬ Claimed_1_1 := by
  intro hA
  obtain ⟨hL, hW, had, -, hcas, hclk, hfr, hfit, hheap, happ, hcalls, hrest, hpre⟩ := tf_start
  obtain ⟨k, q, -, -, hend, -⟩ := hA launch0 tf_flags hL hW start1.p0 start1.e0 had hcas hclk tf_about ⟨0, 0⟩ start1.args0 Lib.HandBits.below0 hfr hfit hheap happ ⟨hcalls, hrest, hpre⟩
  exact tf_never 60 tf_about tf_runs k q hend
theorem tf_refuted_2 : ¬ Claimed_1_2 := by
  intro hA
  obtain ⟨hL, hW, had, -, hcas, hclk, hfr, hfit, hheap, happ, hcalls, hrest, hpre⟩ := tf_start
  obtain ⟨k, q, -, -, hend, -⟩ := hA launch0 tf_flags hL hW start1.p0 start1.e0 had hcas hclk tf_about ⟨0, 0⟩ start1.args0 Lib.HandBits.below0 hfr hfit hheap happ ⟨hcalls, hrest, hpre⟩
  exact tf_never 60 tf_about tf_runs k q hend
theorem tf_refuted : ¬ (Claimed_1_1 ∧ Claimed_1_2) := fun h => tf_refuted_1 h.1
