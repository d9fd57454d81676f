theorem wg_and {a b : Jvm.Cond} {v : Array Jvm.Value} {s : Jvm.State} (h : (Jvm.Cond.and a b).before v s = true) : a.before v s = true ∧ b.before v s = true := by
  rw [Jvm.Cond.before_and, Bool.and_eq_true] at h; exact h
theorem wg_leaf {t : String} {v : Array Jvm.Value} {s : Jvm.State} (hc : s.vm.findClass "[Ljava/lang/StackTraceElement;" = none) : (Jvm.Cond.not (Jvm.Cond.castable "[Ljava/lang/StackTraceElement;" t)).before v s ≠ true := by
  intro h
  simp [Jvm.Cond.before, Jvm.Cond.holds, Jvm.Cond.value, hc] at h
theorem wg_gap (v : Array Jvm.Value) (s : Jvm.State) (hc : s.vm.findClass "[Ljava/lang/StackTraceElement;" = none) : narrow_1_2.before v s ≠ true := fun h =>
  wg_leaf hc (wg_and (wg_and (wg_and (wg_and (wg_and (wg_and (wg_and (wg_and (wg_and h).1).1).1).1).2).2).1).2).1
