/-! Evidence for REPORT.md, TRANSLATOR 1: the printed premise narrow_1_2 holds at no state that lacks the class '[Ljava/lang/StackTraceElement;'. No owed statement. -/
def nrHas : Jvm.Cond → Bool
  | .and a b => nrHas a || nrHas b
  | .not (.castable a b) => a == "[Ljava/lang/StackTraceElement;" && b == "java/lang/String"
  | _ => false

theorem nrFalse {args : Array Value} {s : State} (h : s.vm.findClass "[Ljava/lang/StackTraceElement;" = none) :
    ∀ c : Jvm.Cond, nrHas c = true → c.before args s = false
  | .and a b, hc => by
      rw [nrHas, Bool.or_eq_true] at hc
      rw [Cond.before_and]
      rcases hc with h1 | h1
      · rw [nrFalse h a h1]; rfl
      · rw [nrFalse h b h1, Bool.and_false]
  | .not c, hc => by
      cases c <;> simp [nrHas] at hc
      rename_i a b
      obtain ⟨ha, hb⟩ := hc
      subst ha
      simp [Cond.before, Cond.holds, Cond.value, h]
  | .tt, hc => by simp [nrHas] at hc

set_option maxRecDepth 16384 in
theorem nrHasIt : nrHas narrow_1_2 = true := by decide +kernel

theorem nrNoStart {args : Array Value} {s : State} (h : s.vm.findClass "[Ljava/lang/StackTraceElement;" = none) :
    narrow_1_2.before args s = false := nrFalse h narrow_1_2 nrHasIt
