/-! A START THAT THE PREMISES ALLOW, AT WHICH THE CLAIM FALLS: the witness's own start, with one class more at the end of the table (number 25: an array class of int like number 18, but with a clone of its own, which never ends: goto 0), and with the static array AT_FIRST of that class. -/
def tf_clone : Method := Lib.HandJ.method "clone" "()Ljava/lang/Object;" [] (some (.object "java/lang/Object")) 0x1 1 ⟨#[0xa7, 0x00, 0x00]⟩
def tf_odd : Class := { start1.cArr "[I" 17 .int with interfaces := #[13], methods := #[tf_clone] }
def tf_vm : Vm := { start1.about.vm with classes := start1.about.vm.classes.push tf_odd }
def tf_about : State := { start1.about with vm := tf_vm, heap := start1.about.heap.modify 3 fun c => { c with cls := 25 } }
def tf_same : Jvm.Cond → Bool
  | .code y _ _ _ => match start1.about.methodNamed? y with
    | some m => decide (tf_about.methodNamed? y = some m) && decide (m.cls < 25)
    | none => false
  | _ => true
theorem tf_size : start1.about.vm.classes.size = 25 := by decide +kernel
theorem tf_push (vm : Vm) (k : Class) (m : MethodId) (h : m.cls < vm.classes.size) : ({ vm with classes := vm.classes.push k } : Vm).method? m = vm.method? m := by
  have hn : m.cls ≠ vm.classes.size := Nat.ne_of_lt h
  simp [Vm.method?, Array.getElem?_push, hn]
theorem tf_code {y : MethodName} {bytes : ByteArray} {maxL : Nat} {ret : Option FieldType} (h : (Cond.code y bytes maxL ret).before start1.args0 start1.about = true)
    (hs : tf_same (Cond.code y bytes maxL ret) = true) : (Cond.code y bytes maxL ret).before start1.args0 tf_about = true := by
  cases hq : start1.about.methodNamed? y with
  | none => simp only [tf_same, hq] at hs; cases hs
  | some m =>
    simp only [tf_same, hq, Bool.and_eq_true, decide_eq_true_eq] at hs
    have h2 : tf_about.vm.method? m = start1.about.vm.method? m := tf_push _ _ m (by rw [tf_size]; exact hs.2)
    simp only [Cond.before, Cond.holds, Cond.value, hq, hs.1, Option.bind_some, h2] at h ⊢
    exact h
theorem tf_codes {l : List Jvm.Cond} (h : ∀ c ∈ l, c.before start1.args0 start1.about = true) (hs : l.all tf_same = true) : ∀ c ∈ l.filter su_isCode, c.before start1.args0 tf_about = true := by
  intro c hc
  obtain ⟨h1, h2⟩ := List.mem_filter.mp hc
  have h3 := List.all_eq_true.mp hs c h1
  have h4 := h c h1
  cases c <;> first | exact tf_code h4 h3 | (exact absurd h2 (by simp [su_isCode]))
