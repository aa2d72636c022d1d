section
/-- every start that the premises allow has the class of arrays of StackTraceElement among its classes: what the printed witness' state lacks -/
theorem wy_loaded {args : Array Value} {s : State} (h : (Jvm.Cond.and given_1 narrow_1).before args s = true) : s.vm.findClass "[Ljava/lang/StackTraceElement;" ≠ none := by
  have hs := flat_of_before _ h
  have hc : (Cond.not (Cond.castable "[Ljava/lang/StackTraceElement;" "java/lang/String")).before args s = true := hs _ (by decide +kernel)
  intro h0
  simp [Cond.before, Cond.holds, Cond.value, h0] at hc
end
