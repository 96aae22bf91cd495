section
/-! WHY THE PRINTED START FAILS: a start whose tables have no class of that name meets no premise that forbids a cast from it -/
theorem nt_castNone (args : Array Value) (s : State) (C D : String) (h : s.vm.findClass C = none) : (Jvm.Cond.not (Jvm.Cond.castable C D)).before args s = false := by
  simp [Cond.before, Cond.holds, Cond.value, h]
theorem nt_pre (args : Array Value) (s : State) (h : s.vm.findClass "[Ljava/lang/StackTraceElement;" = none) : (Jvm.Cond.and given_1 narrow_1).before args s ≠ true := by
  intro hb
  have hs := flat_of_before _ hb
  have h1 : (Jvm.Cond.not (Jvm.Cond.castable "[Ljava/lang/StackTraceElement;" "java/lang/String")).before args s = true := hs _ (by decide +kernel)
  rw [nt_castNone args s _ _ h] at h1
  cases h1
end
