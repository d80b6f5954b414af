/-! ===== what narrow_1_2 asks of a state: that it has the class of StackTraceElement's arrays; the printed witness has none of that name ===== -/
def rf_flat : Jvm.Cond → List Jvm.Cond → List Jvm.Cond
  | .and a b, acc => rf_flat a (rf_flat b acc)
  | c, acc => c :: acc
theorem rf_flat_ok {args : Array Value} {s : State} : ∀ (T : Jvm.Cond) (acc : List Jvm.Cond), T.before args s = true → (∀ c ∈ acc, c.before args s = true) → ∀ c ∈ rf_flat T acc, c.before args s = true := by
  intro T
  induction T with
  | and a b iha ihb =>
    intro acc h ha c hc
    rw [Cond.before_and, Bool.and_eq_true] at h
    exact iha _ h.1 (ihb acc h.2 ha) c hc
  | _ =>
    intro acc h ha c hc
    simp only [rf_flat, List.mem_cons] at hc
    rcases hc with rfl | hc
    · exact h
    · exact ha c hc
theorem rf_at : (rf_flat narrow_1_2 [])[112]? = some (.not (.castable "[Ljava/lang/StackTraceElement;" "[B")) := by decide +kernel
theorem rf_need {args : Array Value} {s : State} (h : narrow_1_2.before args s = true) : s.vm.findClass "[Ljava/lang/StackTraceElement;" ≠ none := by
  have h1 := rf_flat_ok narrow_1_2 [] h (fun c hc => by cases hc) _ (List.mem_of_getElem? rf_at)
  intro hn
  simp [Cond.before, Cond.holds, Cond.value, hn] at h1
theorem rf_false {args : Array Value} {s : State} (hn : s.vm.findClass "[Ljava/lang/StackTraceElement;" = none) : narrow_1_2.before args s = false := by
  cases h : narrow_1_2.before args s with
  | false => rfl
  | true => exact absurd hn (rf_need h)
