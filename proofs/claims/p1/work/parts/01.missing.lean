/-- one of the premises: a class named x can't be cast to one named y -/
def tx_isCast (x y : String) : Jvm.Cond → Bool
  | .not (.castable a b) => a == x && b == y
  | _ => false
/-- among the parts that are joined by 'and' -/
def tx_has (f : Jvm.Cond → Bool) : Jvm.Cond → Bool
  | .and a b => tx_has f a || tx_has f b
  | c => f c
theorem tx_holds {f : Jvm.Cond → Bool} {args : Array Value} {s : State} : ∀ c : Jvm.Cond, tx_has f c = true → c.before args s = true → ∃ d : Jvm.Cond, f d = true ∧ d.before args s = true := by
  intro c
  induction c using tx_has.induct with
  | case1 a b iha ihb =>
    intro h hb
    rw [tx_has, Bool.or_eq_true] at h
    rw [Cond.before_and, Bool.and_eq_true] at hb
    exact h.elim (fun h => iha h hb.1) (fun h => ihb h hb.2)
  | case2 c hc =>
    intro h hb
    rw [tx_has.eq_2 f c hc] at h
    exact ⟨c, h, hb⟩
theorem tx_none {x y : String} {args : Array Value} {s : State} (h : s.vm.findClass x = none) (d : Jvm.Cond) (hd : tx_isCast x y d = true) : d.before args s = false := by
  unfold tx_isCast at hd
  split at hd
  · rename_i a b
    rw [Bool.and_eq_true] at hd
    have ha : a = x := by simpa using hd.1
    subst ha
    simp [Cond.before, Cond.holds, Cond.value, h]
  · cases hd
/-- no state without that class meets the premises of narrow_1_2 -/
theorem tx_missing {args : Array Value} {s : State} (h : s.vm.findClass "[Ljava/lang/StackTraceElement;" = none) : narrow_1_2.before args s = false := by
  cases hq : narrow_1_2.before args s with
  | false => rfl
  | true =>
    obtain ⟨d, hd, hb⟩ := tx_holds (f := tx_isCast "[Ljava/lang/StackTraceElement;" "java/lang/String") narrow_1_2 (by decide +kernel) hq
    rw [tx_none h d hd] at hb
    exact hb.symm
