/-! Evidence for REPORT.md, TRANSLATOR: the printed premise narrow_1_2 holds at no state that lacks the class '[Ljava/lang/StackTraceElement;'. No owed statement. -/
def nrIs : Jvm.Cond → Bool
  | .castable a b => a == "[Ljava/lang/StackTraceElement;" && b == "java/lang/String"
  | _ => false

def nrHas : Jvm.Cond → Bool
  | .and a b => nrHas a || nrHas b
  | .not c => nrIs c
  | _ => false

theorem nrNot {args : Array Value} {s : State} (h : s.vm.findClass "[Ljava/lang/StackTraceElement;" = none)
    (c : Jvm.Cond) (hc : nrIs c = true) : (Jvm.Cond.not c).before args s = false := by
  cases c with
  | castable a b =>
    simp only [nrIs, Bool.and_eq_true, beq_iff_eq] at hc
    obtain ⟨ha, hb⟩ := hc
    subst ha
    simp [Cond.before, Cond.holds, Cond.value, h]
  | _ => exact absurd hc (by simp [nrIs])

theorem nrFalse {args : Array Value} {s : State} (h : s.vm.findClass "[Ljava/lang/StackTraceElement;" = none)
    (c : Jvm.Cond) (hc : nrHas c = true) : c.before args s = false := by
  induction c with
  | and a b iha ihb =>
    rw [nrHas, Bool.or_eq_true] at hc
    rw [Cond.before_and]
    rcases hc with h1 | h1
    · rw [iha h1]; rfl
    · rw [ihb h1, Bool.and_false]
  | not c _ => exact nrNot h c hc
  | _ => exact absurd hc (by simp [nrHas])

set_option maxRecDepth 16384 in
theorem nrHasIt : nrHas narrow_1_2 = true := by decide +kernel

theorem nrNoStart {args : Array Value} {s : State} (h : s.vm.findClass "[Ljava/lang/StackTraceElement;" = none) :
    narrow_1_2.before args s = false := nrFalse h narrow_1_2 nrHasIt
