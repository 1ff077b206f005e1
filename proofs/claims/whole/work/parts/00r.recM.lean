/-! the model reads a FIELD with all that lies in it -/
theorem s_f205i {post : St → Prop} {self : (St → Prop) → Int32 → St → Prop} {g kd ty w : Int32} {x : St} {T : Nat → Int32} {n k : Nat} {F : List SFd} {e : Int32} (h : StM x T n F k e) (he : e ≠ -1) (p : post x) : j_Mod_readField_205 post self g kd ty w x := by
  unfold j_Mod_readField_205
  exact br_f (fun z => he (h.2.2.2.2.2.1.symm.trans z)) p
theorem s_f197 {post : St → Prop} {self : (St → Prop) → Int32 → St → Prop} {g kd ty w : Int32} {x : St} {T : Nat → Int32} {n k : Nat} {F : List SFd} {e : Int32} (h : StM x T n F k e) (p : post (if e = -1 then setI x 0 17 (nI k) else x)) : j_Mod_readField_197 post self g kd ty w x := by
  have h6 := h.2.2.2.2.2.1
  have h8 := h.2.2.2.2.2.2.2
  have h7 := h.2.2.2.2.2.2.1
  unfold j_Mod_readField_197
  rw [h.2.2.2.2.1]
  refine s_fail ?_
  rw [h6]
  by_cases c : e = -1
  · rw [if_pos c] at p ⊢
    exact s_f205i h.ill (nI_nm1 (by omega)) p
  · rw [if_neg c] at p ⊢
    exact s_f205i h c p
theorem s_f142i {post : St → Prop} {self : (St → Prop) → Int32 → St → Prop} {g kd ty : Int32} {x : St} {T : Nat → Int32} {n k : Nat} {F : List SFd} {e : Int32} (h : StM x T n F k e) (he : e ≠ -1) (hg : gOk F.length g) (p : post (setI x 0 16 (nI (skip T n k)))) : j_Mod_readField_142 post self g kd ty x := by
  have hs := @skip_le T n k h.2.2.2.2.2.2.1
  refine s_name h hg (fun _ => s_f197 (h.go hs) ?_) (fun _ => s_f205i (h.go hs) he p)
  rw [if_neg he]
  exact p
theorem s_f57i {post : St → Prop} {self : (St → Prop) → Int32 → St → Prop} {g kd : Int32} {x : St} {T : Nat → Int32} {n k : Nat} {F : List SFd} {e : Int32} (h : StM x T n F k e) (he : e ≠ -1) (hg : gOk F.length g) (p : post (setI x 0 16 (nI (skip T n k)))) : j_Mod_readField_57 post self g kd x := by
  have hs := @skip_le T n k h.2.2.2.2.2.2.1
  refine s_type h (fun ty ht => ?_)
  rw [if_neg he] at ht
  subst ht
  rw [if_pos rfl]
  have hx := h.go hs
  unfold j_Mod_readField_128
  refine bn_t rfl (s_fail ?_)
  rw [if_neg (fun z => he (hx.2.2.2.2.2.1.symm.trans z))]
  refine s_f142i hx he hg ?_
  rw [skip_skip, setI_setI]
  exact p
/-- with a fault already there, nothing is read -/
theorem s_readField_ill {post : St → Prop} {d : Nat} {g : Int32} {x : St} {T : Nat → Int32} {n k : Nat} {F : List SFd} {e : Int32} (h : StM x T n F k e) (he : e ≠ -1) (hg : gOk F.length g) (p : post (setI x 0 16 (nI (skip T n k)))) : wr_Mod_readField (d + 1) post g x := by
  have hs := @skip_le T n k h.2.2.2.2.2.2.1
  show wb_Mod_readField post (wr_Mod_readField d) g x
  refine s_kind h (fun kd hk => ?_)
  rw [if_neg he] at hk
  subst hk
  rw [if_pos rfl]
  have hx := h.go hs
  unfold j_Mod_readField_43
  refine bn_t rfl (s_fail ?_)
  rw [if_neg (fun z => he (hx.2.2.2.2.2.1.symm.trans z))]
  refine s_f57i hx he hg ?_
  rw [skip_skip, setI_setI]
  exact p
theorem runS_skip {T : Nat → Int32} {n d : Nat} {F : List SFd} {k : Nat} {g : Int32} : runS T n d F (skip T n k) g = runS T n d F k g := by
  cases d with
  | zero => rfl
  | succ d =>
    have e : rdF T n F (skip T n k) g = rdF T n F k g := by unfold rdF; rw [skip_skip]
    show (if ¬ skip T n (skip T n k) < n ∧ g = -1 ∧ F ≠ [] then _ else _) = (if ¬ skip T n k < n ∧ g = -1 ∧ F ≠ [] then _ else _)
    rw [skip_skip, e]
/-- here a FIELD is read -/
def rdHere (T : Nat → Int32) (n : Nat) (F : List SFd) (k : Nat) (g : Int32) : Prop := ¬ (¬ skip T n k < n ∧ g = -1 ∧ F ≠ []) ∧ ¬ (skip T n k < n ∧ T (skip T n k) = 125 ∧ g ≠ -1 ∧ g ≠ nI (F.length - 1))
theorem runS_rd {T : Nat → Int32} {n d : Nat} {F : List SFd} {k : Nat} {g : Int32} (h : rdHere T n F k g) : runS T n (d + 1) F k g = if (rdF T n F k g).1 = -1 then runS T n d (rdF T n F k g).2.1 (rdF T n F k g).2.2.1 (rdF T n F k g).2.2.2 else ((rdF T n F k g).1, (rdF T n F k g).2.1) := by
  show (if ¬ skip T n k < n ∧ g = -1 ∧ F ≠ [] then _ else _) = _
  rw [if_neg h.1, if_neg h.2]
theorem runS_err {T : Nat → Int32} {n d : Nat} {F F' : List SFd} {k k' v : Nat} {g g' : Int32} (h : rdHere T n F k g) (hv : v < 2 ^ 31) (e : rdF T n F k g = (nI v, F', k', g')) : runS T n (d + 1) F k g = (nI v, F') := by
  rw [runS_rd h, e, if_neg (nI_nm1 hv)]
theorem runS_ok {T : Nat → Int32} {n d : Nat} {F F' : List SFd} {k k' : Nat} {g g' : Int32} (h : rdHere T n F k g) (e : rdF T n F k g = (-1, F', k', g')) : runS T n (d + 1) F k g = runS T n d F' k' g' := by
  rw [runS_rd h, e, if_pos rfl]
/-- the schema begins as another one -/
def preF (F F' : List SFd) : Prop := F.length ≤ F'.length ∧ ∀ h, h < F.length → F'.getD h fd0 = F.getD h fd0
theorem preF.trans {F G H : List SFd} (a : preF F G) (b : preF G H) : preF F H := ⟨Nat.le_trans a.1 b.1, fun h hh => (b.2 h (Nat.lt_of_lt_of_le hh a.1)).trans (a.2 h hh)⟩
theorem preF.refl (F : List SFd) : preF F F := ⟨Nat.le_refl _, fun _ _ => rfl⟩
theorem preF.app {F : List SFd} {z : SFd} : preF F (F ++ [z]) := ⟨by rw [List.length_append]; exact Nat.le_add_right _ _, fun h hh => getD_app hh⟩
/-- what reading a FIELD from a place on comes to -/
def outS (x y : St) (T : Nat → Int32) (n : Nat) (F : List SFd) (k : Nat) (g : Int32) : Prop :=
  ∃ F' k' e, FrS x y ∧ StM y T n F' k' e ∧ (e ≠ -1 → ∃ c, ∀ d, (runS T n (d + c) F k g).1 = e) ∧
    (e = -1 → k < k' ∧ gIn F' g ∧ F.length < F'.length ∧ preF F F' ∧ ∃ c, ∀ d, runS T n (d + c) F k g = runS T n d F' k' g)
theorem wdAt_in {T : Nat → Int32} {n s : Nat} : ∀ {L : List (List Nat)} {i : Nat} {v : Int32}, wdAt T n s L i = v → v ≠ -1 → ∃ j, j < L.length ∧ v = nI (i + j) ∧ isWd T n s (L.getD j []) := by
  intro L
  induction L with
  | nil => intro i v h hv; exact absurd h.symm hv
  | cons b L ih =>
    intro i v h hv
    have h : (if isWd T n s b then nI i else wdAt T n s L (i + 1)) = v := h
    by_cases c : isWd T n s b
    · rw [if_pos c] at h
      exact ⟨0, Nat.succ_pos _, h.symm, c⟩
    · rw [if_neg c] at h
      obtain ⟨j, j1, j2, j3⟩ := ih h hv
      exact ⟨j + 1, Nat.succ_lt_succ j1, by rw [j2, show i + 1 + j = i + (j + 1) by omega], j3⟩
