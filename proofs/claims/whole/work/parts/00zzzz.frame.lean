/-! the model: four bytes around a file; what stands behind a field -/
def magB : List Nat := [83, 84, 82, 66]
theorem s_addFrame {post : St → Prop} {x : St} {W : List Nat} (h : Wk x W) (hW : W.length < 2 ^ 29) (p : ∀ y, FrW x y → Wk y (W ++ magB) → post y) : wp_Mod_addFrame post x := by
  unfold wp_Mod_addFrame
  refine s_addByte (b := 83) h (by omega) (by decide) (fun y1 f1 w1 => ?_)
  refine s_addByte (b := 84) w1 (by rw [List.length_append]; show _ + 1 < _; omega) (by decide) (fun y2 f2 w2 => ?_)
  refine s_addByte (b := 82) w2 (by rw [List.length_append, List.length_append]; show _ + 1 + 1 < _; omega) (by decide) (fun y3 f3 w3 => ?_)
  refine s_addByte (b := 66) w3 (by rw [List.length_append, List.length_append, List.length_append]; show _ + 1 + 1 + 1 < _; omega) (by decide) (fun y4 f4 w4 => p y4 (Fg.trans f1 (Fg.trans f2 (Fg.trans f3 f4))) ?_)
  have e : W ++ [83] ++ [84] ++ [82] ++ [66] = W ++ magB := by simp only [List.append_assoc]; rfl
  rw [← e]
  exact w4
