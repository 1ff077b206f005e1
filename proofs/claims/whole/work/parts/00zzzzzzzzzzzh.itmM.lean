/-! answers that are items of groups, model -/
def agA (F : List SFd) (G : List Nat) (CK : List (List PgW)) (Q : Qy) : List GrT := (grpA F G CK Q).getD []
/-- the item and the group that an answer is of -/
def itA (o : Bool) (F : List SFd) (G : List Nat) (CK : List (List PgW)) (Q : Qy) (v w : Int32) : Option (QIt × GrT) := if o = true ∧ cll Q = true ∧ 0 ≤ v ∧ v < nI (agA F G CK Q).length ∧ 0 ≤ w ∧ w < nI Q.1.length then some (Q.1.getD (fOf w) (0, 0, 0), (agA F G CK Q).getD (fOf v) (0, [])) else none
def beG (F : List SFd) (G : List Nat) (CK : List (List PgW)) (a : QIt × GrT) : Option PV := if a.1.1 = 0 then celR F G CK (fOf a.2.1) (cOf F a.1.2.1) else bst (tOf F a.1.2.1) (decide (a.1.1 = 4)) (itV F G CK a.1 a.2.2)
def kdG (F : List SFd) (G : List Nat) (CK : List (List PgW)) (a : QIt × GrT) : Int32 := if a.1.1 = 1 ∨ a.1.1 = 2 then 2 else if a.1.1 = 3 then (if (itV F G CK a.1 a.2.2).length = 0 then 0 else 2) else match beG F G CK a with
  | none => 0
  | some _ => if tOf F a.1.2.1 = 0 then 1 else if tOf F a.1.2.1 = 3 then 3 else 2
def vaG (F : List SFd) (G : List Nat) (CK : List (List PgW)) (a : QIt × GrT) : Int64 := if kdG F G CK a = 1 ∨ kdG F G CK a = 2 then (if a.1.1 = 1 then (nI a.2.2.length).toInt64 else if a.1.1 = 2 then (nI (itV F G CK a.1 a.2.2).length).toInt64 else if a.1.1 = 3 then sumL (itV F G CK a.1 a.2.2) else match beG F G CK a with
  | none => 0
  | some p => p.1) else 0
def leG (F : List SFd) (G : List Nat) (CK : List (List PgW)) (a : QIt × GrT) (u : Int32) : Int32 := if kdG F G CK a = 3 then (match beG F G CK a with
  | none => -1
  | some p => if 0 ≤ u ∧ u < nI p.2.length then p.2.getD (fOf u) 0 else -1) else -1
theorem putG_first {same : Nat → Nat → Bool} {r N : Nat} (hr : r < N) : ∀ {A : List GrT}, (∀ g, g ∈ A → ∃ a, a < N ∧ g.1 = nI a) → ∀ g, g ∈ putG same r A → ∃ a, a < N ∧ g.1 = nI a
  | [], _, g, hg => by
    rw [List.mem_singleton.mp hg]
    exact ⟨r, hr, rfl⟩
  | b :: A, hA, g, hg => by
    have hg : g ∈ (if same (fOf b.1) r = true then (b.1, b.2 ++ [r]) :: A else b :: putG same r A) := hg
    split at hg
    · rcases List.mem_cons.mp hg with rfl | hg
      · exact hA b List.mem_cons_self
      · exact hA g (List.mem_cons_of_mem _ hg)
    · rcases List.mem_cons.mp hg with rfl | hg
      · exact hA _ List.mem_cons_self
      · exact putG_first hr (fun g hg => hA g (List.mem_cons_of_mem _ hg)) g hg
theorem grpG_first {same : Nat → Nat → Bool} {N : Nat} : ∀ {L : List Nat} {A B : List GrT}, (∀ r, r ∈ L → r < N) → (∀ g, g ∈ A → ∃ a, a < N ∧ g.1 = nI a) → grpG same L A = some B → ∀ g, g ∈ B → ∃ a, a < N ∧ g.1 = nI a
  | [], A, B, _, hA, h => by
    injection h with h
    rw [← h]
    exact hA
  | r :: L, A, B, hL, hA, h => by
    have h : (if 500 < (putG same r A).length then none else grpG same L (putG same r A)) = some B := h
    split at h
    · exact nomatch h
    · refine grpG_first (fun q hq => hL q (List.mem_cons_of_mem _ hq)) ?_ h
      exact putG_first (hL r List.mem_cons_self) hA
theorem putG_len {same : Nat → Nat → Bool} {r k : Nat} : ∀ {A : List GrT}, (∀ g, g ∈ A → g.2.length ≤ k) → ∀ g, g ∈ putG same r A → g.2.length ≤ k + 1
  | [], _, g, hg => by
    rw [List.mem_singleton.mp hg]
    exact Nat.le_add_left _ _
  | b :: A, hA, g, hg => by
    have hg : g ∈ (if same (fOf b.1) r = true then (b.1, b.2 ++ [r]) :: A else b :: putG same r A) := hg
    split at hg
    · rcases List.mem_cons.mp hg with rfl | hg
      · have := hA b List.mem_cons_self
        show (b.2 ++ [r]).length ≤ _
        rw [List.length_append]
        exact Nat.succ_le_succ this
      · exact Nat.le_succ_of_le (hA g (List.mem_cons_of_mem _ hg))
    · rcases List.mem_cons.mp hg with rfl | hg
      · exact Nat.le_succ_of_le (hA _ List.mem_cons_self)
      · exact putG_len (fun g hg => hA g (List.mem_cons_of_mem _ hg)) g hg
theorem grpG_len {same : Nat → Nat → Bool} : ∀ {L : List Nat} {A B : List GrT} {k : Nat}, (∀ g, g ∈ A → g.2.length ≤ k) → grpG same L A = some B → ∀ g, g ∈ B → g.2.length ≤ k + L.length
  | [], A, B, _, hA, h => by
    injection h with h
    rw [← h]
    exact hA
  | r :: L, A, B, k, hA, h => by
    have h : (if 500 < (putG same r A).length then none else grpG same L (putG same r A)) = some B := h
    split at h
    · exact nomatch h
    · intro g hg
      have := grpG_len (putG_len hA) h g hg
      show _ ≤ k + (L.length + 1)
      omega
section
variable {x y z : St} {F : List SFd} {G : List Nat} {K : List ChT} {CK : List (List PgW)} {Pl : List PV} {s : Nat} {Q : Qy} {o : Bool}
theorem grpA_first {A : List GrT} (hB : Q.2.1 ≠ []) (h : grpA F G CK Q = some A) {g : Nat} (hg : g < A.length) : ∃ a, a < smN G ∧ (A.getD g (0, [])).1 = nI a := by
  unfold grpA at h
  rw [if_neg hB] at h
  exact grpG_first (fun r hr => fnd_lt hr) (fun g hg => absurd hg List.not_mem_nil) h _ (mem_gD hg)
theorem grpA_len {A : List GrT} (h : grpA F G CK Q = some A) {g : Nat} (hg : g < A.length) : (A.getD g (0, [])).2.length ≤ smN G := by
  have fl := fnd_le (F := F) (G := G) (CK := CK) (Q := Q)
  unfold grpA at h
  split at h
  · injection h with h
    subst h
    have : g = 0 := by
      have : g < 1 := hg
      omega
    subst this
    exact fl
  · have := grpG_len (k := 0) (fun g hg => absurd hg List.not_mem_nil) h _ (mem_gD (d := (0, [])) hg)
    omega
theorem s_isItem {post : Int32 → St → Prop} {v w : Int32} (hL : LM x) (h : AnM x o s F G CK Pl Q) (p1 : ∀ g i A, o = true → cll Q = true → v = nI g → w = nI i → grpA F G CK Q = some A → g < A.length → i < Q.1.length → itA o F G CK Q v w = some (Q.1.getD i (0, 0, 0), A.getD g (0, [])) → post 1 x) (p0 : itA o F G CK Q v w = none → post 0 x) : wp_Mod_isItem post v w x := by
  have no : ¬ (o = true ∧ cll Q = true ∧ 0 ≤ v ∧ v < nI (agA F G CK Q).length ∧ 0 ≤ w ∧ w < nI Q.1.length) → j_Mod_isItem_53 post v w x := fun hn => p0 (by unfold itA; rw [if_neg hn])
  unfold wp_Mod_isItem
  rw [h.1]
  cases o with
  | false => exact br_t rfl (no (fun z => nomatch z.1))
  | true =>
    obtain ⟨h1, h2, h3, h4, h5, h6⟩ := h.2 rfl
    refine br_f (by decide) ?_
    rw [h2]
    refine s_collects hL h1 h3.1 ?_
    by_cases c : cll Q = true
    rotate_left
    · rw [Bool.not_eq_true _ |>.mp c]
      exact br_t rfl (no (fun z => c z.2.1))
    rw [if_pos c]
    refine br_f (by decide) ?_
    obtain ⟨A, eA, n161, n5, -⟩ := h5.2.2.2 c
    have aA : agA F G CK Q = A := by unfold agA; rw [eA]; rfl
    have q1 := h3.1.1.1
    have q2 := h3.1.1.2.1
    rw [n161]
    by_cases c1 : v < 0
    · exact br_t c1 (no (fun z => absurd c1 (Int32.not_lt.mpr z.2.2.1)))
    refine br_f c1 ?_
    by_cases c2 : v < nI A.length
    rotate_left
    · exact br_t (Int32.not_lt.mp c2) (no (fun z => c2 (by rw [← aA]; exact z.2.2.2.1)))
    refine br_f (Int32.not_le.mpr c2) ?_
    by_cases c3 : w < 0
    · exact br_t c3 (no (fun z => absurd c3 (Int32.not_lt.mpr z.2.2.2.2.1)))
    refine br_f c3 ?_
    have e4 : 4 * (fI x 0 119) = nI (4 * s) := by
      rw [h2]
      show nI 4 * nI s = _
      rw [nI_mul]
    have e4' : (4 : Int32) * nI s = nI (4 * s) := by
      show nI 4 * nI s = _
      rw [nI_mul]
    have r79 : rA x 79 (nI (4 * s)) = nI Q.1.length := by
      rw [rA_nI (by omega)]; exact q1
    rw [show fN x 79 = 12 from hL 79]
    first | rw [e4, r79] | rw [e4', r79]
    refine ⟨vp_in_nI (by omega) (by decide), ?_⟩
    by_cases c4 : w < nI Q.1.length
    rotate_left
    · exact br_t (Int32.not_lt.mp c4) (no (fun z => c4 z.2.2.2.2.2))
    refine br_f (Int32.not_le.mpr c4) ?_
    obtain ⟨g, g1, rfl⟩ := i_fit (by omega) c1 c2
    obtain ⟨i, i1, rfl⟩ := i_fit (by omega) c3 c4
    refine p1 g i A rfl c rfl rfl eA g1 i1 ?_
    unfold itA
    rw [aA, if_pos ⟨rfl, c, Int32.not_lt.mp c1, c2, Int32.not_lt.mp c3, c4⟩]
    unfold fOf
    rw [nI_clamp (by omega), nI_clamp (by omega)]
/-- the value of an item that has one -/
theorem s_bestOf {post : Int32 → St → Prop} {g i : Nat} {A : List GrT} (H : RdM x F G CK Pl) (hw : WfS F) (ok : OkO F G CK) (hl : CK.length = ncol F * G.length) (h : AnM x true s F G CK Pl Q) (hc : cll Q = true) (eA : grpA F G CK Q = some A) (hg : g < A.length) (hi : i < Q.1.length) (hn : (Q.1.getD i (0, 0, 0)).1 = 0 ∨ 4 ≤ (Q.1.getD i (0, 0, 0)).1)
    (p0 : beG F G CK (Q.1.getD i (0, 0, 0), A.getD g (0, [])) = none → post (-1) x) (p1 : ∀ a, a < Pl.length → beG F G CK (Q.1.getD i (0, 0, 0), A.getD g (0, [])) = some (pvd Pl a) → post (nI a) x) : wp_Mod_bestOf post (nI g) (nI i) x := by
  have hL := H.1
  obtain ⟨h1, h2, h3, h4, h5, h6⟩ := h.2 rfl
  obtain ⟨A', eA', n161, n5, hA⟩ := h5.2.2.2 hc
  rw [eA] at eA'
  injection eA' with eA'
  subst eA'
  obtain ⟨⟨q1, q2, q3⟩, -⟩ := h3.1
  obtain ⟨g1, g2, g3⟩ := hA g hg
  obtain ⟨t1, t2, -⟩ := q3 i hi
  have e16 : (16 * (fI x 0 119)) + nI i = nI (16 * s + i) := by
    rw [h2]
    show nI 16 * nI s + nI i = _
    rw [nI_mul, nI_add]
  have eg : (16 * nI g) + nI i = nI (16 * g + i) := by
    show nI 16 * nI g + nI i = _
    rw [nI_mul, nI_add]
  have r80 : rA x 80 (nI (16 * s + i)) = (Q.1.getD i (0, 0, 0)).1 := by rw [rA_nI (by omega)]; exact t1
  have r81 : rA x 81 (nI (16 * s + i)) = (Q.1.getD i (0, 0, 0)).2.1 := by rw [rA_nI (by omega)]; exact t2
  have r109 : rA x 109 (nI g) = (A.getD g (0, [])).1 := by rw [rA_nI (by omega)]; exact g1
  have r112 : rA x 112 (nI (16 * g + i)) = fA x 112 (16 * g + i) := rA_nI (by omega)
  unfold wp_Mod_bestOf
  rw [e16, eg, r80, r81, r109, r112, show fN x 80 = 48 from hL 80, show fN x 81 = 48 from hL 81, show fN x 109 = 500 from hL 109, show fN x 112 = 8000 from hL 112]
  refine ⟨vp_in_nI (by omega) (by decide), nm_e ?_⟩
  have hit := h4.2.1 _ (mem_gD (d := (0, 0, 0)) hi)
  have g3 := g3 i hi
  have mq := mem_gD (d := ((0, 0, 0) : QIt)) hi
  generalize Q.1.getD i (0, 0, 0) = it at *
  by_cases z : it.1 = 0
  · refine bn_t z ⟨vp_in_nI (by omega) (by decide), vp_in_nI (by omega) (by decide), ?_⟩
    have by1 := h4.2.2.2.2.2 hc it mq z
    have hB : Q.2.1 ≠ [] := by
      intro e
      rw [e] at by1
      exact nomatch by1
    obtain ⟨a, a1, a2⟩ := grpA_first hB eA hg
    obtain ⟨f, hf, ef⟩ : ∃ f, colF F f ∧ it.2.1 = nI f := by
      unfold byB at by1
      rw [List.any_eq_true] at by1
      obtain ⟨f, f1, f2⟩ := by1
      exact ⟨f, h4.2.2.1 f f1, (of_decide_eq_true f2).symm⟩
    have f31 : f < 2 ^ 31 := by have := hf.1; have := hw.1; omega
    have be : beG F G CK (it, A.getD g (0, [])) = celR F G CK a (ncol (F.take f)) := by
      unfold beG
      rw [if_pos z]
      show celR F G CK (fOf (A.getD g (0, [])).1) (cOf F it.2.1) = _
      rw [a2, ef]
      unfold cOf fOf
      rw [nI_clamp (by omega), nI_clamp f31]
    rw [be] at p0 p1
    rw [a2, ef]
    exact s_valueAt H hw ok hl hf a1 p0 p1
  · have n4 : 4 ≤ it.1 := hn.resolve_left z
    refine bn_f z (br_f ?_ ⟨vp_in_nI (by omega) (by decide), ?_⟩)
    · clear hn p0 p1
      (first | omega | (simp (disch := omega) only [Int32.le_iff_toInt_le, Int32.lt_iff_toInt_lt, z_eq, z_in, nI_toInt, z_cl, z_m1, z_sg, z_255, Int32.reduceToInt] at * <;> omega) | (simp only [Int32.le_iff_toInt_le, Int32.lt_iff_toInt_lt, z_eq, z_in, z_add, z_sub, z_mul, z_neg, z_nI, z_cl, z_sg, z_255, z_lit, Int32.reduceToInt] at * <;> omega))
    obtain ⟨-, -, b1, b2⟩ := g3
    have be : beG F G CK (it, A.getD g (0, [])) = bst (tOf F it.2.1) (decide (it.1 = 4)) (itV F G CK it (A.getD g (0, [])).2) := by
      unfold beG
      rw [if_neg z]
    rw [be] at p0 p1
    generalize bst (tOf F it.2.1) (decide (it.1 = 4)) (itV F G CK it (A.getD g (0, [])).2) = b at *
    match b, b1, b2, p0, p1 with
    | none, b1, _, p0, _ =>
      rw [b1 rfl]
      exact p0 rfl
    | some q, _, b2, _, p1 =>
      obtain ⟨-, a, a1, a2, a3⟩ := b2 q rfl
      rw [a2]
      exact p1 a a1 (by rw [a3])
end
