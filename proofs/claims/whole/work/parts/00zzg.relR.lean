/-! the class's entries and the model's rows of entries -/
def sumC (f : Nat → Nat) : Nat → Nat
  | 0 => 0
  | c + 1 => sumC f c + f c
theorem sumC_cg {f g : Nat → Nat} : ∀ {C : Nat}, (∀ c, c < C → f c = g c) → sumC f C = sumC g C := by
  intro C
  induction C with
  | zero => intro _; rfl
  | succ C ih => intro h; show sumC f C + f C = sumC g C + g C; rw [ih (fun c hc => h c (by omega)), h C (by omega)]
theorem sumC_add {f g : Nat → Nat} : ∀ {C : Nat}, sumC (fun c => f c + g c) C = sumC f C + sumC g C := by
  intro C
  induction C with
  | zero => rfl
  | succ C ih => show sumC _ C + (f C + g C) = (sumC f C + f C) + (sumC g C + g C); rw [ih]; omega
theorem sumC_one {a w : Nat} : ∀ {C : Nat}, sumC (fun c => if a = c then w else 0) C = if a < C then w else 0 := by
  intro C
  induction C with
  | zero => rfl
  | succ C ih =>
    show sumC _ C + (if a = C then w else 0) = _
    rw [ih]
    by_cases c : a < C
    · rw [if_pos c, if_pos (show a < C + 1 by omega), if_neg (by omega)]; rfl
    · rw [if_neg c]
      by_cases d : a = C
      · rw [if_pos d, if_pos (by omega)]; omega
      · rw [if_neg d, if_neg (by omega)]
theorem colE_cons {c : Nat} {e : SEn} {E : List SEn} : colE c (e :: E) = if e.1 = c then e :: colE c E else colE c E := by
  unfold colE
  rw [List.filter_cons]
  by_cases d : e.1 = c
  · rw [if_pos d, decide_eq_true d]; rfl
  · rw [if_neg d, decide_eq_false d]; rfl
/-- how many there are, of all columns -/
theorem cnt_col {w : SEn → Nat} {W : List SEn → Nat} (hW0 : W [] = 0) (hW : ∀ e E, W (e :: E) = w e + W E) {C : Nat} : ∀ {E : List SEn}, (∀ e, e ∈ E → e.1 < C) → W E = sumC (fun c => W (colE c E)) C := by
  intro E
  induction E with
  | nil =>
    intro _
    have : ∀ C, sumC (fun c => W (colE c [])) C = 0 := by
      intro C
      induction C with
      | zero => rfl
      | succ C ih => show sumC _ C + W [] = 0; rw [ih, hW0]
    rw [this, hW0]
  | cons e E ih =>
    intro h
    rw [hW, ih (fun z hz => h z (List.mem_cons_of_mem _ hz))]
    have e1 : ∀ c, W (colE c (e :: E)) = W (colE c E) + (if e.1 = c then w e else 0) := by
      intro c
      rw [colE_cons]
      split
      · rw [hW]; omega
      · omega
    rw [sumC_cg (fun c _ => e1 c), sumC_add, sumC_one, if_pos (h e List.mem_cons_self)]
    omega
theorem len_col {C : Nat} {E : List SEn} (h : ∀ e, e ∈ E → e.1 < C) : E.length = sumC (fun c => (colE c E).length) C := cnt_col (w := fun _ => 1) (W := List.length) rfl (fun e E => by rw [List.length_cons]; omega) h
theorem tx_col {C : Nat} {E : List SEn} (h : ∀ e, e ∈ E → e.1 < C) : tx E = sumC (fun c => tx (colE c E)) C := cnt_col (w := fun e => e.2.2.2.2.length) (W := tx) rfl (fun e E => rfl) h
theorem strF_col {F : List SFd} {L : List SNd} {c leaf : Nat} : ∀ m node r d e, e ∈ strF F L c leaf m node r d → e.1 = c := by
  intro m
  induction m with
  | zero =>
    intro node r d e h
    rw [strF_eq] at h
    split at h
    · rw [List.mem_singleton] at h; rw [h]
    · have : ∀ ks lv, e ∈ goK (bodyK F L c leaf 0 (ancN F 0 leaf)) (rF F (ancN F 0 leaf)) ks lv → e.1 = c := by
        intro ks
        induction ks with
        | nil => intro lv h; exact absurd h (by show ¬ e ∈ []; simp)
        | cons k ks ih =>
          intro lv h
          rcases List.mem_append.mp h with z | z
          · unfold bodyK at z
            rw [if_pos rfl, List.mem_singleton] at z
            rw [z]
          · exact ih _ z
      exact this _ _ h
  | succ m ihm =>
    intro node r d e h
    rw [strF_eq] at h
    split at h
    · rw [List.mem_singleton] at h; rw [h]
    · have : ∀ ks lv, e ∈ goK (bodyK F L c leaf (m + 1) (ancN F (m + 1) leaf)) (rF F (ancN F (m + 1) leaf)) ks lv → e.1 = c := by
        intro ks
        induction ks with
        | nil => intro lv h; exact absurd h (by show ¬ e ∈ []; simp)
        | cons k ks ih =>
          intro lv h
          rcases List.mem_append.mp h with z | z
          · unfold bodyK at z
            rw [if_neg (by omega)] at z
            exact ihm _ _ _ _ z
          · exact ih _ z
      exact this _ _ h
theorem colE_all {c : Nat} {E : List SEn} (h : ∀ e, e ∈ E → e.1 = c) : colE c E = E := List.filter_eq_self.mpr (fun e he => decide_eq_true (h e he))
theorem colE_no {c : Nat} {E : List SEn} (h : ∀ e, e ∈ E → e.1 ≠ c) : colE c E = [] := List.filter_eq_nil_iff.mpr (fun e he => by rw [decide_eq_true_eq]; exact h e he)
theorem colE_row {F : List SFd} {L : List SNd} {c : Nat} : ∀ C, colE c (rowS F L C) = if c < C then colS F L c else [] := by
  intro C
  induction C with
  | zero => rfl
  | succ C ih =>
    rw [rowS_s, colE_app, ih]
    by_cases d : c < C
    · rw [if_pos d, if_pos (by omega), colE_no (fun e he => by rw [strF_col _ _ _ _ e he]; omega), List.append_nil]
    · rw [if_neg d]
      by_cases e : c = C
      · rw [if_pos (by omega), e, colE_all (E := colS F L C) (fun e he => strF_col _ _ _ _ e he)]; rfl
      · rw [if_neg (by omega), colE_no (fun z hz => by rw [strF_col _ _ _ _ z hz]; omega)]; rfl
theorem rowS_lt {F : List SFd} {L : List SNd} : ∀ C e, e ∈ rowS F L C → e.1 < C := by
  intro C
  induction C with
  | zero => intro e h; exact absurd h (by show ¬ e ∈ []; simp)
  | succ C ih =>
    intro e h
    rw [rowS_s] at h
    rcases List.mem_append.mp h with z | z
    · have := ih e z; omega
    · rw [strF_col _ _ _ _ e z]; omega
/-- a record's row: its columns one behind the other, each beginning with level 0 -/
def okRow (C : Nat) (ro : List SEn) : Prop := (∀ e, e ∈ ro → e.1 < C) ∧ ro = (List.range C).flatMap (fun c => colE c ro) ∧ ∀ c, c < C → Hd 0 (colE c ro)
def RelR (F : List SFd) (E : List SEn) (RS : List (List SEn)) : Prop := (∀ e, e ∈ E → e.1 < ncol F) ∧ (∀ ro, ro ∈ RS → okRow (ncol F) ro) ∧ (∀ c, c < ncol F → colE c E = (RS.map (colE c)).flatten) ∧ E.length = RS.flatten.length ∧ tx E = tx RS.flatten
theorem RelR.nil (F : List SFd) : RelR F [] [] := ⟨fun e h => absurd h (by simp), fun e h => absurd h (by simp), fun _ _ => rfl, rfl, rfl⟩
theorem flatMap_cg {f g : Nat → List SEn} : ∀ {C : Nat}, (∀ c, c < C → f c = g c) → (List.range C).flatMap f = (List.range C).flatMap g := by
  intro C
  induction C with
  | zero => intro _; rfl
  | succ C ih =>
    intro h
    rw [List.range_succ, List.flatMap_append, List.flatMap_append, ih (fun c hc => h c (by omega))]
    simp [h C (by omega)]
theorem row_ok2 {T : Nat → Int32} {n : Nat} {F : List SFd} (hw : WfS F) (hn : n < 2 ^ 31) (h : (pGrp T n F 18 0 (-1) 0 nd1).1 = -1) (hl : (pGrp T n F 18 0 (-1) 0 nd1).2.2.length < 2 ^ 30) : okRow (ncol F) (rowS F (pGrp T n F 18 0 (-1) 0 nd1).2.2 (ncol F)) := by
  refine ⟨rowS_lt _, ?_, fun c hc => ?_⟩
  · rw [flatMap_cg (g := colS F (pGrp T n F 18 0 (-1) 0 nd1).2.2) (fun c hc => by rw [colE_row, if_pos hc])]
    rfl
  · rw [colE_row, if_pos hc]
    exact rec_Hd hw hn h hl hc
theorem sum_rec {T : Nat → Int32} {n : Nat} {F : List SFd} (hw : WfS F) (hF : F ≠ []) (hn : n < 2 ^ 31) (h : (pGrp T n F 18 0 (-1) 0 nd1).1 = -1) (hl : (pGrp T n F 18 0 (-1) 0 nd1).2.2.length < 2 ^ 30) : (eGrp T n F 18 0 (-1) 0 nd1 0).length = (rowS F (pGrp T n F 18 0 (-1) 0 nd1).2.2 (ncol F)).length ∧ tx (eGrp T n F 18 0 (-1) 0 nd1 0) = tx (rowS F (pGrp T n F 18 0 (-1) 0 nd1).2.2 (ncol F)) := by
  have lt := eGrp_lt hF hw.1 18 0 (-1) 0 nd1 0 (T := T) (n := n)
  have e : ∀ c, c < ncol F → colE c (eGrp T n F 18 0 (-1) 0 nd1 0) = colE c (rowS F (pGrp T n F 18 0 (-1) 0 nd1).2.2 (ncol F)) := fun c hc => by rw [rec_col hw hn h hl hc, colE_row, if_pos hc]
  rw [len_col lt, len_col (rowS_lt _), tx_col lt, tx_col (rowS_lt _)]
  exact ⟨sumC_cg (fun c hc => by rw [e c hc]), sumC_cg (fun c hc => by rw [e c hc])⟩
/-- one more record -/
theorem RelR.add {T : Nat → Int32} {n : Nat} {F : List SFd} {E : List SEn} {RS : List (List SEn)} (r : RelR F E RS) (hw : WfS F) (hF : F ≠ []) (hn : n < 2 ^ 31) (h : (pGrp T n F 18 0 (-1) 0 nd1).1 = -1) (hl : (pGrp T n F 18 0 (-1) 0 nd1).2.2.length < 2 ^ 30) : RelR F (E ++ eGrp T n F 18 0 (-1) 0 nd1 0) (RS ++ [rowS F (pGrp T n F 18 0 (-1) 0 nd1).2.2 (ncol F)]) := by
  obtain ⟨r1, r2, r3, r4, r5⟩ := r
  have s := sum_rec hw hF hn h hl
  refine ⟨fun e he => ?_, fun ro hro => ?_, fun c hc => ?_, ?_, ?_⟩
  · rcases List.mem_append.mp he with z | z
    · exact r1 e z
    · exact eGrp_lt hF hw.1 _ _ _ _ _ _ e z
  · rcases List.mem_append.mp hro with z | z
    · exact r2 ro z
    · rw [List.mem_singleton] at z; rw [z]; exact row_ok2 hw hn h hl
  · rw [colE_app, r3 c hc, List.map_append, List.flatten_append, rec_col hw hn h hl hc]
    congr 1
    show _ = colE c (rowS F _ (ncol F)) ++ []
    rw [List.append_nil, colE_row, if_pos hc]
  · rw [List.length_append, List.flatten_append, List.length_append, r4, s.1]
    simp
  · rw [tx_app, List.flatten_append, tx_app, r5, s.2]
    simp
theorem RelR.ok {T : Nat → Int32} {n : Nat} {F : List SFd} {E : List SEn} {RS : List (List SEn)} (r : RelR F E RS) (hw : WfS F) (hF : F ≠ []) (hn : n < 2 ^ 31) (h : (pGrp T n F 18 0 (-1) 0 nd1).1 = -1) (hl : (pGrp T n F 18 0 (-1) 0 nd1).2.2.length < 2 ^ 30) : OkE (RS.flatten ++ rowS F (pGrp T n F 18 0 (-1) 0 nd1).2.2 (ncol F)) ↔ (E ++ eGrp T n F 18 0 (-1) 0 nd1 0).length ≤ 10000 ∧ tx (E ++ eGrp T n F 18 0 (-1) 0 nd1 0) ≤ 60000 := by
  have s := sum_rec hw hF hn h hl
  unfold OkE
  rw [List.length_append, tx_app, List.length_append, tx_app, r.2.2.2.1, r.2.2.2.2, s.1, s.2]
