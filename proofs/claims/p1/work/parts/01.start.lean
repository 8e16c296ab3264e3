/-! What the Statement's premise asks of a start, and what the printed witness wants: a start must hold the array type of stack traces among its loaded types. -/
theorem wn_needs {args : Array Value} {s : State} (h : (Jvm.Cond.and given_1 narrow_1).before args s = true) : ∃ c, s.vm.findClass "[Ljava/lang/StackTraceElement;" = some c := by
  have h1 : (Jvm.Cond.not (Jvm.Cond.castable "[Ljava/lang/StackTraceElement;" "java/lang/String")).before args s = true := flat_of_before _ h _ (by decide +kernel)
  obtain ⟨c, t, h2, _, _⟩ := va_Nc.of h1
  exact ⟨c, h2⟩
/-- no state whose loaded types are all of other names is a start: the premise is false there, whatever the arguments -/
theorem wn_none {args : Array Value} {s : State} (hn : ∀ k ∈ s.vm.classes, k.name ≠ "[Ljava/lang/StackTraceElement;") : (Jvm.Cond.and given_1 narrow_1).before args s = false := by
  cases hb : (Jvm.Cond.and given_1 narrow_1).before args s with
  | false => rfl
  | true =>
    obtain ⟨c, hc⟩ := wn_needs hb
    unfold Vm.findClass at hc
    obtain ⟨hlt, hp, _⟩ := Array.findIdx?_eq_some_iff_getElem.mp hc
    simp only [Bool.and_eq_true, beq_iff_eq] at hp
    exact absurd hp.1.1.1 (hn _ (Array.getElem_mem hlt))
