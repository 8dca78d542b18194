/-- what the Statement's own premise asks of a start: that the machine has the class of the arrays of StackTraceElement (one of its 'not castable' words is worth nothing where the class is unknown, and then it doesn't hold) -/
theorem wf_asks {args : Array Value} {s : State} (h : (Jvm.Cond.and given_1 narrow_1).before args s = true) : ∃ c, s.vm.findClass "[Ljava/lang/StackTraceElement;" = some c := by
  have hs := flat_of_before _ h
  have h1 : (Jvm.Cond.not (Jvm.Cond.castable "[Ljava/lang/StackTraceElement;" "java/lang/String")).before args s = true := hs _ (by decide +kernel)
  cases hc : s.vm.findClass "[Ljava/lang/StackTraceElement;" with
  | some c => exact ⟨c, rfl⟩
  | none => simp [Cond.before, Cond.holds, Cond.value, hc] at h1
/-- so no start without that class meets it -/
theorem wf_not {args : Array Value} {s : State} (hc : s.vm.findClass "[Ljava/lang/StackTraceElement;" = none) : (Jvm.Cond.and given_1 narrow_1).before args s = false := by
  cases hb : (Jvm.Cond.and given_1 narrow_1).before args s with
  | false => rfl
  | true =>
    obtain ⟨c, h⟩ := wf_asks hb
    rw [hc] at h
    cases h
