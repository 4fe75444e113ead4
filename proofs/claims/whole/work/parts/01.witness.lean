/-- the start that the premises allow has the class of arrays of stack trace elements in its tables -/
theorem nh_needs (a : Array Value) (s : State) (h : narrow_1.before a s = true) : s.vm.findClass "[Ljava/lang/StackTraceElement;" ≠ none := by
  have hs := flat_of_before _ h
  have hc : (Cond.not (Cond.castable "[Ljava/lang/StackTraceElement;" "java/lang/Integer")).before a s = true := hs _ (by decide +kernel)
  intro hn
  simp [Cond.before, Cond.holds, Cond.value, hn] at hc
