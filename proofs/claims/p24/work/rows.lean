section
/-! ===== what narrow_1_2 asks of a state: that it has the class of StackTraceElement's arrays; the printed witness has none of that name ===== -/
def rf_flat : Jvm.Cond → List Jvm.Cond → List Jvm.Cond
  | .and a b, acc => rf_flat a (rf_flat b acc)
  | c, acc => c :: acc
theorem rf_flat_ok {args : Array Value} {s : State} : ∀ (T : Jvm.Cond) (acc : List Jvm.Cond), T.before args s = true → (∀ c ∈ acc, c.before args s = true) → ∀ c ∈ rf_flat T acc, c.before args s = true := by
  intro T
  induction T with
  | and a b iha ihb =>
    intro acc h ha c hc
    rw [Cond.before_and, Bool.and_eq_true] at h
    exact iha _ h.1 (ihb acc h.2 ha) c hc
  | _ =>
    intro acc h ha c hc
    simp only [rf_flat, List.mem_cons] at hc
    rcases hc with rfl | hc
    · exact h
    · exact ha c hc
theorem rf_at : (rf_flat narrow_1_2 [])[112]? = some (.not (.castable "[Ljava/lang/StackTraceElement;" "[B")) := by decide +kernel
theorem rf_need {args : Array Value} {s : State} (h : narrow_1_2.before args s = true) : s.vm.findClass "[Ljava/lang/StackTraceElement;" ≠ none := by
  have h1 := rf_flat_ok narrow_1_2 [] h (fun c hc => by cases hc) _ (List.mem_of_getElem? rf_at)
  intro hn
  simp [Cond.before, Cond.holds, Cond.value, hn] at h1
theorem rf_false {args : Array Value} {s : State} (hn : s.vm.findClass "[Ljava/lang/StackTraceElement;" = none) : narrow_1_2.before args s = false := by
  cases h : narrow_1_2.before args s with
  | false => rfl
  | true => exact absurd hn (rf_need h)
/-- the names of the classes of the printed witness' start, in its order, as read in witness.lean.txt -/
def rf_names : List String := ["DandelionBroadcastLaw", "java/lang/Object", "DandelionBroadcast", "DandelionBroadcast$State", "DandelionBroadcast$Net", "DandelionBroadcast$Cast", "DandelionBroadcast$History", "DandelionBroadcast$Ways", "DandelionBroadcast$SpreadTree", "DandelionBroadcast$Winds", "DandelionBroadcast$Changer", "DandelionBroadcast$Commands", "DandelionBroadcastModel", "java/lang/System", "java/lang/Math", "java/lang/StringLatin1", "jdk/internal/util/Preconditions", "java/lang/StringUTF16", "DandelionBroadcast$1", "jdk/internal/util/ArraysSupport", "java/util/Arrays", "jdk/internal/access/JavaLangAccess", "java/lang/Cloneable", "java/io/Serializable", "java/lang/Comparable", "java/lang/CharSequence", "java/lang/constant/Constable", "java/lang/constant/ConstantDesc", "java/lang/Appendable", "java/lang/Throwable", "java/lang/String", "java/lang/Number", "java/lang/Enum", "java/lang/AbstractStringBuilder", "java/lang/System$2", "java/lang/Exception", "java/lang/Integer", "java/lang/Float", "DandelionBroadcast$Kind", "java/lang/StringBuilder", "java/lang/RuntimeException", "java/lang/IndexOutOfBoundsException", "java/lang/IllegalArgumentException", "java/lang/UnsupportedOperationException", "java/util/NoSuchElementException", "java/lang/ArithmeticException", "java/lang/IllegalStateException", "java/lang/ArrayIndexOutOfBoundsException", "int", "[I", "float", "[F", "char", "[C", "byte", "[B", "long", "[J", "double", "[D", "short", "[S", "[LDandelionBroadcast$State;", "[LDandelionBroadcast$Kind;", "[[I"]
theorem rf_none {s : State} (h : s.vm.classes.toList.map (·.name) = rf_names) : s.vm.findClass "[Ljava/lang/StackTraceElement;" = none := by
  unfold Vm.findClass
  rw [Array.findIdx?_eq_none_iff]
  intro k hk
  have hm : k.name ∈ rf_names := by
    rw [← h]
    exact List.mem_map_of_mem (by simpa using hk)
  have hne : k.name ≠ "[Ljava/lang/StackTraceElement;" := by
    intro e
    rw [e] at hm
    exact absurd hm (by decide)
  simp [hne]
/-- so: at a state with these classes the premise narrow_1_2 doesn't hold, whatever else stands in it -/
theorem rf_witness {args : Array Value} {s : State} (h : s.vm.classes.toList.map (·.name) = rf_names) : narrow_1_2.before args s = false := rf_false (rf_none h)
end
