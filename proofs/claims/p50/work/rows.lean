section
-- What the printed premise narrow_1_2 asks of the classes of any start that meets it (REPORT.md, TRANSLATOR):
-- a class of the name "[Ljava/lang/StackTraceElement;". The printed start has none of that name.
theorem wg_left {a b : Cond} {args : Array Value} {s : State} (h : (Cond.and a b).before args s = true) : a.before args s = true := by
  rw [Cond.before_and, Bool.and_eq_true] at h
  exact h.1
theorem wg_right {a b : Cond} {args : Array Value} {s : State} (h : (Cond.and a b).before args s = true) : b.before args s = true := by
  rw [Cond.before_and, Bool.and_eq_true] at h
  exact h.2
theorem wg_known {x y : String} {args : Array Value} {s : State} (h : (Cond.not (Cond.castable x y)).before args s = true) : (s.vm.findClass x).isSome = true := by
  cases hx : s.vm.findClass x with
  | some c => rfl
  | none =>
    exfalso
    simp [Cond.before, Cond.holds, Cond.value, hx] at h
theorem wg_named {vm : Vm} {x : String} (h : (vm.findClass x).isSome = true) : ∃ k : Class, k ∈ vm.classes.toList ∧ k.name = x := by
  obtain ⟨i, hi⟩ := Option.isSome_iff_exists.mp h
  unfold Vm.findClass at hi
  obtain ⟨hlt, hp, _⟩ := Array.findIdx?_eq_some_iff_getElem.mp hi
  refine ⟨vm.classes[i], by simp, ?_⟩
  simp only [Bool.and_eq_true] at hp
  exact beq_iff_eq.mp hp.1.1.1
/-- Every start that meets narrow_1_2 has a class of that name. -/
theorem wg_gap (args : Array Value) (s : State) (h : narrow_1_2.before args s = true) : ∃ k : Class, k ∈ s.vm.classes.toList ∧ k.name = "[Ljava/lang/StackTraceElement;" :=
  wg_named (wg_known (wg_left (wg_right (wg_left (wg_right (wg_left (wg_right (wg_left (wg_left (wg_right h))))))))))
/-- So one whose classes have other names doesn't meet it: what the printed row narrow_hold_2 says of the printed start is false. -/
theorem wg_none (args : Array Value) (s : State) (h : s.vm.classes.toList.all (fun k => decide (k.name ≠ "[Ljava/lang/StackTraceElement;")) = true) : narrow_1_2.before args s = false := by
  cases hb : narrow_1_2.before args s with
  | false => rfl
  | true =>
    obtain ⟨k, hk, hn⟩ := wg_gap args s hb
    exact absurd hn (of_decide_eq_true (List.all_eq_true.mp h k hk))
end
