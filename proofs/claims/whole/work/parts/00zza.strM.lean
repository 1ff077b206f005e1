/-! the model: columns out of a record's values -/
def ancN (F : List SFd) : Nat → Nat → Nat
  | 0, f => f
  | m + 1, f => ancN F m (fPa F f).toNatClampNeg
/-- the values of field f in a node, of those below b -/
def kd (L : List SNd) (node f b : Nat) : List Nat := (List.range b).filter (fun k => decide (node < k ∧ (L.getD k (0, 0, 0, [])).1 = nI node ∧ (L.getD k (0, 0, 0, [])).2.1 = nI f))
def goK (g : Nat → Nat → List SEn) (R : Nat) : List Nat → Nat → List SEn
  | [], _ => []
  | k :: ks, lv => g k lv ++ goK g R ks R
/-- the entries of a column from a node on, m fields above the leaf -/
def strF (F : List SFd) (L : List SNd) (c leaf : Nat) : Nat → Nat → Nat → Nat → List SEn
  | 0, node, r, d => if kd L node leaf L.length = [] then [(c, r, d, 0, [])] else goK (fun k lv => [(c, lv, dG F (nI leaf), (L.getD k (0, 0, 0, [])).2.2.1, (L.getD k (0, 0, 0, [])).2.2.2)]) (rF F leaf) (kd L node leaf L.length) r
  | m + 1, node, r, d => if kd L node (ancN F (m + 1) leaf) L.length = [] then [(c, r, d, 0, [])] else goK (fun k lv => strF F L c leaf m k lv (dG F (nI (ancN F (m + 1) leaf)))) (rF F (ancN F (m + 1) leaf)) (kd L node (ancN F (m + 1) leaf) L.length) r
theorem kd_s {L : List SNd} {node f b : Nat} : kd L node f (b + 1) = kd L node f b ++ (if node < b ∧ (L.getD b (0, 0, 0, [])).1 = nI node ∧ (L.getD b (0, 0, 0, [])).2.1 = nI f then [b] else []) := by
  unfold kd
  rw [List.range_succ, List.filter_append]
  congr 1
  by_cases d : node < b ∧ (L.getD b (0, 0, 0, [])).1 = nI node ∧ (L.getD b (0, 0, 0, [])).2.1 = nI f
  · rw [if_pos d, List.filter_cons, decide_eq_true d]; rfl
  · rw [if_neg d, List.filter_cons, decide_eq_false d]; rfl
theorem kd_0 {L : List SNd} {node f b : Nat} (h : b ≤ node + 1) : kd L node f b = [] := by
  unfold kd
  rw [List.filter_eq_nil_iff]
  intro k hk
  rw [decide_eq_true_eq]
  have := List.mem_range.mp hk
  omega
theorem goK_app {g : Nat → Nat → List SEn} {R : Nat} : ∀ {a b : List Nat} {lv : Nat}, goK g R (a ++ b) lv = goK g R a lv ++ goK g R b (if a = [] then lv else R) := by
  intro a
  induction a with
  | nil => intro b lv; rw [if_pos rfl]; rfl
  | cons k ks ih =>
    intro b lv
    rw [if_neg (by simp)]
    show g k lv ++ goK g R (ks ++ b) R = (g k lv ++ goK g R ks R) ++ goK g R b R
    rw [ih, List.append_assoc]
    split <;> rfl
theorem kd_ex {L : List SNd} {node f b : Nat} : ∀ {e : Nat}, b ≤ e → ∃ r, kd L node f e = kd L node f b ++ r := by
  intro e h
  induction e with
  | zero => exact ⟨[], by rw [show b = 0 by omega, List.append_nil]⟩
  | succ e ih =>
    by_cases c : b = e + 1
    · exact ⟨[], by rw [c, List.append_nil]⟩
    · obtain ⟨r, hr⟩ := ih (by omega)
      exact ⟨_, by rw [kd_s, hr, List.append_assoc]⟩
theorem EmM.ex {y : St} {E0 G1 G2 : List SEn} (h : EmM y E0 G1) (n : ¬ OkE (E0 ++ G1)) (l : ∃ r, G2 = G1 ++ r) : EmM y E0 G2 := by
  obtain ⟨r, rfl⟩ := l
  refine ⟨h.1, Or.inr ⟨fun z => n ?_, ?_⟩⟩
  · obtain ⟨z1, z2⟩ := z
    rw [← List.append_assoc, List.length_append] at z1
    rw [← List.append_assoc, tx_app] at z2
    exact ⟨by omega, by omega⟩
  · rcases h.2 with z | z
    · exact absurd z.1 n
    · exact z.2
theorem NdM.e {x y : St} {L : List SNd} {s e0 t0 : Nat} (h : NdM x L s) (f : FrE e0 t0 x y) : NdM y L s := by
  obtain ⟨h1, h2, h3, h4⟩ := h
  have eA : ∀ a, 12 ≤ a → a ≤ 16 → fA y a = fA x a := fun a b c => f.2.2.2.1 a (by omega)
  refine ⟨(f.1 0 24 (by decide)).trans h1, h2, (f.1 0 25 (by decide)).trans h3, fun i hi => ?_⟩
  rw [eA 13 (by decide) (by decide), eA 12 (by decide) (by decide), eA 15 (by decide) (by decide), eA 14 (by decide) (by decide), eA 16 (by decide) (by decide), show fL y 17 = fL x 17 from f.2.2.2.2.2.1 17 (by decide)]
  exact h4 i hi
theorem LM.e {x y : St} {e0 t0 : Nat} (h : LM x) (f : FrE e0 t0 x y) : LM y := fun o => by show y.2.2.2.2.2 o = _; rw [f.2.2.2.2.2.2.2]; exact h o
theorem RepM.e {x y : St} {q e0 t0 : Nat} {F : List SFd} (h : RepM x q F) (f : FrE e0 t0 x y) : RepM y q F := by
  have e : ∀ a, a ≤ 11 → fA y a = fA x a := fun a b => f.2.2.2.1 a (by omega)
  unfold RepM
  rw [e 9 (by decide), e 10 (by decide), e 3 (by decide), e 4 (by decide), e 5 (by decide), e 7 (by decide), e 8 (by decide), e 6 (by decide), e 11 (by decide)]
  exact h
theorem anc_ok {F : List SFd} (hw : WfS F) : ∀ m f, f < F.length → m < upS wOne (fPa F) (nI f) → ancN F m f < F.length ∧ upS wOne (fPa F) (nI (ancN F m f)) = upS wOne (fPa F) (nI f) - m := by
  have hF := hw.1
  intro m
  induction m with
  | zero => intro f hf _; exact ⟨hf, rfl⟩
  | succ m ih =>
    intro f hf h
    rw [upS_at hw.2.2.1 hf] at h ⊢
    have h : m + 1 < 1 + upS wOne (fPa F) (fPa F f) := h
    show ancN F m (fPa F f).toNatClampNeg < F.length ∧ upS wOne (fPa F) (nI (ancN F m (fPa F f).toNatClampNeg)) = 1 + upS wOne (fPa F) (fPa F f) - (m + 1)
    rcases hw.2.2.1.2 f hf with z | ⟨g, hg, z⟩
    · rw [z, upS_neg] at h; omega
    · rw [z] at h ⊢
      rw [nI_clamp (by omega)]
      have := ih g (by omega) (by omega)
      exact ⟨this.1, by omega⟩
theorem anc_s {F : List SFd} : ∀ m f, ancN F (m + 1) f = (fPa F (ancN F m f)).toNatClampNeg := by
  intro m
  induction m with
  | zero => intro f; rfl
  | succ m ih => intro f; exact ih _
theorem s_onWay {post : Int32 → St → Prop} {x : St} {F : List SFd} {leaf m : Nat} (hL : LM x) (hR : RepM x 0 F) (hw : WfS F) (hl : leaf < F.length) (hm : m < upS wOne (fPa F) (nI leaf)) (p : post (nI (ancN F m leaf)) x) : wp_Mod_onWay post 0 (nI leaf) (nI (upS wOne (fPa F) (nI leaf) - 1 - m)) x := by
  have hF := hw.1
  have l5 : fN x 5 = 384 := hL 5
  have gk : gOk F.length (nI leaf) := Or.inr ⟨leaf, hl, rfl⟩
  have h17 := up17 hw gk (w := wOne) (fun _ => Nat.le_refl 1)
  unfold wp_Mod_onWay
  refine s_deep (q := 0) hL (by decide) (hR.wf hw) gk ?_
  rw [hR.up hw gk]
  generalize hD : upS wOne (fPa F) (nI leaf) = D at *
  refine nm_r (e' := nI (D - 1)) (nI_sub (b := 1) (by omega)) ?_
  refine lp_Mod_onWay_13 (fun l1 l2 l3 l4 l5 y => 0 = l1 ∧ nI (D - 1 - m) = l3 ∧ x = y ∧ ∃ j, j ≤ m ∧ nI (ancN F j leaf) = l4 ∧ nI (D - 1 - j) = l5) (fun _ _ _ _ l5 _ => l5.toNatClampNeg) ?_ _ _ _ _ _ _ ⟨rfl, rfl, rfl, 0, Nat.zero_le _, rfl, rfl⟩
  rintro R l1 l2 l3 l4 l5 y ⟨rfl, rfl, rfl, j, j1, rfl, rfl⟩ ih
  unfold j_Mod_onWay_13
  by_cases c : j = m
  · subst c
    exact br_t (by (first | omega | (simp (disch := omega) only [Int32.le_iff_toInt_le, Int32.lt_iff_toInt_lt, z_eq, z_in, nI_toInt, z_cl, z_m1, z_sg, z_255, Int32.reduceToInt] <;> omega) | (simp only [Int32.le_iff_toInt_le, Int32.lt_iff_toInt_lt, z_eq, z_in, z_add, z_sub, z_mul, z_neg, z_nI, z_cl, z_sg, z_255, z_lit, Int32.reduceToInt] <;> omega))) p
  · refine br_f (by (first | omega | (simp (disch := omega) only [Int32.le_iff_toInt_le, Int32.lt_iff_toInt_lt, z_eq, z_in, nI_toInt, z_cl, z_m1, z_sg, z_255, Int32.reduceToInt] <;> omega) | (simp only [Int32.le_iff_toInt_le, Int32.lt_iff_toInt_lt, z_eq, z_in, z_add, z_sub, z_mul, z_neg, z_nI, z_cl, z_sg, z_255, z_lit, Int32.reduceToInt] <;> omega))) ?_
    unfold wp_Mod_place
    have ha := anc_ok hw j leaf hl (by omega)
    rw [hD] at ha
    dsimp only
    rw [show (128 : Int32) * 0 + nI (ancN F j leaf) = nI (ancN F j leaf) by rw [Int32.mul_zero, Int32.zero_add], l5, rA_nI (by omega)]
    refine ⟨vp_in_nI (by omega) (by decide), nm_e ?_⟩
    have e5 := (hR.2.2.1 _ ha.1).2.2.1
    rw [show 128 * 0 + ancN F j leaf = ancN F j leaf by omega] at e5
    rw [e5, show nI (D - 1 - j) + -1 = nI (D - 1 - (j + 1)) by
      have e : nI (D - 1 - j) = nI (D - 1 - (j + 1)) + 1 := by rw [nI_1]; congr 1; omega
      rw [e, Int32.add_assoc]
      show _ + 0 = _
      rw [Int32.add_zero]]
    refine ih _ _ _ _ _ _ ⟨rfl, rfl, rfl, j + 1, by omega, ?_, rfl⟩ ?_
    · rw [anc_s]
      rcases hw.2.2.1.2 _ ha.1 with z | ⟨g, hg, z⟩
      · have := ha.2
        rw [upS_at hw.2.2.1 ha.1, z, upS_neg] at this
        have this : 1 + 0 = D - j := this
        omega
      · rw [z, nI_clamp (by omega)]
    · rw [nI_clamp (by omega), nI_clamp (by omega)]
      omega
/-- what the model holds while a record is striped -/
def SpM (x : St) (F : List SFd) (L : List SNd) (s : Nat) (E0 G : List SEn) : Prop := LM x ∧ RepM x 0 F ∧ NdM x L s ∧ EmM x E0 G
theorem SpM.to {x y : St} {F : List SFd} {L : List SNd} {s e0 t0 : Nat} {E0 G G' : List SEn} (h : SpM x F L s E0 G) (f : FrE e0 t0 x y) (k : EmM y E0 G') : SpM y F L s E0 G' := ⟨h.1.e f, h.2.1.e f, h.2.2.1.e f, k⟩
def okS (F : List SFd) (L : List SNd) (s : Nat) (E0 : List SEn) (c leaf m : Nat) (SS : (St → Prop) → Int32 → Int32 → Int32 → Int32 → Int32 → St → Prop) : Prop := ∀ (post : St → Prop) (x : St) (node r d : Nat) (G : List SEn), SpM x F L s E0 G → node < L.length → (∀ y, FrE E0.length (tx E0) x y → EmM y E0 (G ++ strF F L c leaf m node r d) → post y) → SS post (nI c) (nI node) (nI (upS wOne (fPa F) (nI leaf) - 1 - m)) (nI r) (nI d) x
theorem upF_wcg {w v : Nat → Nat} {P : Nat → Int32} {N : Nat} (hP : wfP P N) (e : ∀ f, f < N → w f = v f) : ∀ k g, gOk N g → upF w P k g = upF v P k g := by
  intro k
  induction k with
  | zero => intro g _; rfl
  | succ k ih =>
    intro g hg
    have h1 := hP.1
    rcases hg with rfl | ⟨f, hf, rfl⟩
    · rw [upF_neg, upF_neg]
    · rw [upF_s (by omega), upF_s (by omega), e f hf, ih _ (hP.ok hf)]
theorem upS_wcg {w v : Nat → Nat} {P : Nat → Int32} {N : Nat} {g : Int32} (hP : wfP P N) (e : ∀ f, f < N → w f = v f) (hg : gOk N g) : upS w P g = upS v P g := upF_wcg hP e 128 g hg
theorem mK_up {x : St} {q : Nat} {F : List SFd} {g : Int32} (h : RepM x q F) (hw : WfS F) (hg : gOk F.length g) : upS (wDef (mK x q)) (mP x q) g = dG F g ∧ upS (wRep (mK x q)) (mP x q) g = upS (wRep (fKd F)) (fPa F) g := by
  have e : ∀ f, f < F.length → mK x q f = fKd F f := fun f hf => (h.2.2.1 f hf).1
  rw [h.up hw hg, h.up hw hg]
  exact ⟨upS_wcg hw.2.2.1 (fun f hf => by unfold wDef; rw [e f hf]) hg, upS_wcg hw.2.2.1 (fun f hf => by unfold wRep; rw [e f hf]) hg⟩
theorem s_stripe1 {F : List SFd} {L : List SNd} {s : Nat} {E0 : List SEn} {c leaf m : Nat} {SS : (St → Prop) → Int32 → Int32 → Int32 → Int32 → Int32 → St → Prop} (hw : WfS F) (hl : leaf < F.length) (hty : fTy F leaf ≠ 4) (hc : cB F leaf = c) (hm : m < upS wOne (fPa F) (nI leaf)) (hs : s ≤ 4100) (hn : L.length ≤ 4100) (ih : ∀ m', m = m' + 1 → okS F L s E0 c leaf m' SS) : okS F L s E0 c leaf m (fun post l1 l2 l3 l4 l5 x => wb_Mod_stripe post SS l1 l2 l3 l4 l5 x) := by
  intro post x node r d G h hnode p
  have hF := hw.1
  have hC := hw.2.1
  have hcl := cB_lt hw hl hty
  have gk : gOk F.length (nI leaf) := Or.inr ⟨leaf, hl, rfl⟩
  have h17 := up17 hw gk (w := wOne) (fun _ => Nat.le_refl 1)
  have l11 : fN x 11 = 192 := h.1 11
  unfold wb_Mod_stripe
  have e11 : rA x 11 (nI c) = nI leaf := by
    rw [rA_nI (by omega)]
    have := h.2.1.2.2.2 leaf hl hty
    rw [show 64 * 0 + ncol (F.take leaf) = c by rw [← hc]; unfold cB; omega] at this
    exact this
  refine ⟨by rw [l11]; exact vp_in_nI (by omega) (by decide), ?_⟩
  rw [e11]
  refine nm_e (s_onWay h.1 h.2.1 hw hl hm ?_)
  have hA := anc_ok hw m leaf hl hm
  generalize hf : ancN F m leaf = f at *
  have gkf : gOk F.length (nI f) := Or.inr ⟨f, hA.1, rfl⟩
  -- what comes of one value
  generalize hB : (fun k lv => if m = 0 then [(c, lv, dG F (nI leaf), (L.getD k (0, 0, 0, [])).2.2.1, (L.getD k (0, 0, 0, [])).2.2.2)] else strF F L c leaf (m - 1) k lv (dG F (nI f))) = B
  have hS : strF F L c leaf m node r d = if kd L node f L.length = [] then [(c, r, d, 0, [])] else goK B (rF F f) (kd L node f L.length) r := by
    rw [← hB, ← hf]
    cases m with
    | zero => rfl
    | succ m => rfl
  rw [hS] at p
  have hfl : (m = 0 ↔ nI f = nI leaf) := by
    constructor
    · intro z; rw [z] at hf; rw [← hf]; rfl
    · intro z
      rw [nI_eq (by omega) (by omega)] at z
      have := hA.2
      rw [z] at this
      omega
  rw [nI_1]
  refine nm_e ?_
  have lev1 : ∀ (y : St) (b : Int32) (post : Int32 → St → Prop), SpM y F L s E0 G ∨ (LM y ∧ RepM y 0 F) → post (nI (if b = 0 then dG F (nI f) else rF F f)) y → wp_Mod_level post 0 (nI f) b y := by
    intro y b post z q
    have z : LM y ∧ RepM y 0 F := z.elim (fun w => ⟨w.1, w.2.1⟩) (fun w => w)
    refine s_level (q := 0) (N := F.length) z.1 (by decide) (z.2.wf hw) gkf ?_
    have := mK_up z.2 hw gkf
    by_cases cb : b = 0
    · rw [if_pos cb] at q ⊢; rw [this.1]; exact q
    · rw [if_neg cb] at q ⊢; rw [this.2]; exact q
  -- no more values
  have fin : ∀ (y : St) (l8 l9 l10 : Int32) (k : Nat), k ≤ L.length → FrE E0.length (tx E0) x y → SpM y F L s E0 (G ++ goK B (rF F f) (kd L node f k) r) → (if kd L node f k = [] then 0 else 1) = l9 → (k = L.length ∨ fI y 0 37 ≠ 0) → j_Mod_stripe_143 post SS (nI c) (nI node) (nI (upS wOne (fPa F) (nI leaf) - 1 - m)) (nI r) (nI d) (nI leaf) (nI f) l8 l9 l10 y := by
    intro y l8 l9 l10 k hk f1 f2 f3 f4
    unfold j_Mod_stripe_143
    have cut : fI y 0 37 ≠ 0 → ∀ z, FrE E0.length (tx E0) y z → (∃ r', EmM z E0 ((G ++ goK B (rF F f) (kd L node f k) r) ++ r')) → EmM z E0 (G ++ if kd L node f L.length = [] then [(c, r, d, 0, [])] else goK B (rF F f) (kd L node f L.length) r) := by
      rintro e z z1 ⟨r', z2⟩
      have nk : ¬ OkE (E0 ++ (G ++ goK B (rF F f) (kd L node f k) r)) := by
        rcases f2.2.2.2.2 with w | w
        · exact absurd w.2.1 e
        · exact w.1
      have e1 : EmM z E0 (G ++ goK B (rF F f) (kd L node f k) r) := ⟨z2.1, Or.inr ⟨nk, by
        rcases z2.2 with w | w
        · exfalso
          apply nk
          obtain ⟨w1, w2⟩ := w.1
          rw [← List.append_assoc, List.length_append] at w1
          rw [← List.append_assoc, tx_app] at w2
          exact ⟨by omega, by omega⟩
        · exact w.2⟩⟩
      refine e1.ex nk ?_
      obtain ⟨q, hq⟩ := @kd_ex L node f k L.length hk
      rw [hq]
      by_cases c1 : kd L node f k = []
      · rw [c1]
        rw [show goK B (rF F f) [] r = [] from rfl, List.append_nil]
        exact ⟨_, rfl⟩
      · rw [if_neg (by simp [c1]), goK_app, ← List.append_assoc]
        exact ⟨_, rfl⟩
    by_cases c1 : kd L node f k = []
    · rw [if_pos c1] at f3
      refine bn_t f3.symm ?_
      refine s_entry (G := G ++ goK B (rF F f) (kd L node f k) r) f2.1 f2.2.2.1 hs hn (Or.inl rfl) f2.2.2.2 (fun z z1 z2 => p z (f1.trans z1) ?_)
      rcases f4 with f4 | f4
      · subst f4
        rw [c1] at z2
        rw [if_pos c1]
        rw [show goK B (rF F f) [] r = [] from rfl, List.append_nil] at z2
        exact z2
      · exact cut f4 z z1 ⟨_, z2⟩
    · rw [if_neg c1] at f3
      refine bn_f (by rw [← f3]; decide) (p y f1 ?_)
      rcases f4 with f4 | f4
      · subst f4
        rw [if_neg c1]
        exact f2.2.2.2
      · exact cut f4 y (FrE.refl _ _ _) ⟨[], by rw [List.append_nil]; exact f2.2.2.2⟩
  refine lp_Mod_stripe_30 (fun l1 l2 l3 l4 l5 l6 l7 l8 l9 l10 y => nI c = l1 ∧ nI node = l2 ∧ nI (upS wOne (fPa F) (nI leaf) - 1 - m) = l3 ∧ nI r = l4 ∧ nI d = l5 ∧ nI leaf = l6 ∧ nI f = l7 ∧ ∃ k, nI k = l10 ∧ node < k ∧ k ≤ L.length ∧ FrE E0.length (tx E0) x y ∧ SpM y F L s E0 (G ++ goK B (rF F f) (kd L node f k) r) ∧ (if kd L node f k = [] then 0 else 1) = l9 ∧ (kd L node f k = [] → nI r = l8)) (fun _ _ _ _ _ _ _ _ _ l10 _ => 10000 - l10.toNatClampNeg) ?_ _ _ _ _ _ _ _ _ _ _ _ ⟨rfl, rfl, rfl, rfl, rfl, rfl, rfl, node + 1, rfl, by omega, hnode, FrE.refl _ _ _, ?_, ?_, fun _ => rfl⟩
  · rintro R l1 l2 l3 l4 l5 l6 l7 l8 l9 l10 y ⟨rfl, rfl, rfl, rfl, rfl, rfl, rfl, k, rfl, k0, k1, f1, f2, f3, f4⟩ ihl
    unfold j_Mod_stripe_30
    rw [f2.2.2.1.1]
    by_cases c1 : k < L.length
    · refine br_f (by (first | omega | (simp (disch := omega) only [Int32.le_iff_toInt_le, Int32.lt_iff_toInt_lt, z_eq, z_in, nI_toInt, z_cl, z_m1, z_sg, z_255, Int32.reduceToInt] <;> omega) | (simp only [Int32.le_iff_toInt_le, Int32.lt_iff_toInt_lt, z_eq, z_in, z_add, z_sub, z_mul, z_neg, z_nI, z_cl, z_sg, z_255, z_lit, Int32.reduceToInt] <;> omega))) ?_
      by_cases c2 : fI y 0 37 = 0
      · have l13 : fN y 13 = 4100 := f2.1 13
        have l12 : fN y 12 = 4100 := f2.1 12
        have nd := f2.2.2.1.2.2.2 k c1
        refine bn_t c2 ⟨by rw [l13]; exact vp_in_nI (by omega) (by decide), ?_⟩
        rw [rA_nI (by omega), nd.1, l12, rA_nI (by omega), nd.2.1]
        have next : ∀ (z : St) (l8 l9 : Int32), FrE E0.length (tx E0) x z → SpM z F L s E0 (G ++ goK B (rF F f) (kd L node f (k + 1)) r) → (if kd L node f (k + 1) = [] then 0 else 1) = l9 → (kd L node f (k + 1) = [] → nI r = l8) → j_Mod_stripe_137 post SS R (nI c) (nI node) (nI (upS wOne (fPa F) (nI leaf) - 1 - m)) (nI r) (nI d) (nI leaf) (nI f) l8 l9 (nI k) z := by
          intro z l8 l9 z1 z2 z3 z4
          unfold j_Mod_stripe_137
          rw [nI_1]
          refine ihl _ _ _ _ _ _ _ _ _ _ _ ⟨rfl, rfl, rfl, rfl, rfl, rfl, rfl, k + 1, rfl, by omega, by omega, z1, z2, z3, z4⟩ ?_
          rw [nI_clamp (by omega), nI_clamp (by omega)]
          omega
        have same : ¬ (node < k ∧ (L.getD k (0, 0, 0, [])).1 = nI node ∧ (L.getD k (0, 0, 0, [])).2.1 = nI f) → kd L node f (k + 1) = kd L node f k := fun z => by rw [kd_s, if_neg z, List.append_nil]
        by_cases c3 : (L.getD k (0, 0, 0, [])).1 = nI node
        · refine bn_t c3 ⟨vp_in_nI (by omega) (by decide), ?_⟩
          by_cases c4 : (L.getD k (0, 0, 0, [])).2.1 = nI f
          · have ek : kd L node f (k + 1) = kd L node f k ++ [k] := by rw [kd_s, if_pos ⟨k0, c3, c4⟩]
            have one : ∀ (z : St) (l9 : Int32), SpM z F L s E0 (G ++ goK B (rF F f) (kd L node f k) r) → FrE E0.length (tx E0) x z → j_Mod_stripe_87 post SS R (nI c) (nI node) (nI (upS wOne (fPa F) (nI leaf) - 1 - m)) (nI r) (nI d) (nI leaf) (nI f) (nI (if kd L node f k = [] then r else rF F f)) l9 (nI k) z := by
              intro z l9 z1 z2
              have fin2 : ∀ w, FrE E0.length (tx E0) z w → EmM w E0 ((G ++ goK B (rF F f) (kd L node f k) r) ++ B k (if kd L node f k = [] then r else rF F f)) → j_Mod_stripe_137 post SS R (nI c) (nI node) (nI (upS wOne (fPa F) (nI leaf) - 1 - m)) (nI r) (nI d) (nI leaf) (nI f) (nI (if kd L node f k = [] then r else rF F f)) 1 (nI k) w := by
                intro w w1 w2
                refine next w _ 1 (z2.trans w1) (z1.to w1 ?_) (by rw [ek, if_neg (by simp)]) (fun u => absurd u (by rw [ek]; simp))
                rw [ek, goK_app, ← List.append_assoc]
                show EmM w E0 (_ ++ (B k _ ++ []))
                rw [List.append_nil]
                exact w2
              unfold j_Mod_stripe_87
              by_cases c5 : m = 0
              · refine bn_t (hfl.mp c5) (lev1 z 0 _ (Or.inr ⟨z1.1, z1.2.1⟩) ?_)
                rw [if_pos rfl]
                refine s_entry z1.1 z1.2.2.1 hs hn (Or.inr ⟨k, by omega, c1, rfl⟩) z1.2.2.2 (fun w w1 w2 => fin2 w w1 ?_)
                have : B k (if kd L node f k = [] then r else rF F f) = [(c, if kd L node f k = [] then r else rF F f, dG F (nI f), (ndV L (nI k)).1, (ndV L (nI k)).2)] := by
                  have ef : f = leaf := by have := hfl.mp c5; rwa [nI_eq (by omega) (by omega)] at this
                  rw [← hB]
                  dsimp only
                  rw [if_pos c5, ef]
                  unfold ndV
                  rw [if_neg (nI_nm1 (by omega)), nI_clamp (by omega)]
                rw [this]
                exact w2
              · obtain ⟨m', rfl⟩ : ∃ m', m = m' + 1 := ⟨m - 1, by omega⟩
                refine bn_f (fun u => c5 (hfl.mpr u)) (lev1 z 0 _ (Or.inr ⟨z1.1, z1.2.1⟩) ?_)
                rw [if_pos rfl, nI_1, show upS wOne (fPa F) (nI leaf) - 1 - (m' + 1) + 1 = upS wOne (fPa F) (nI leaf) - 1 - m' by omega]
                refine ih m' rfl _ z k _ _ _ z1 c1 (fun w w1 w2 => fin2 w w1 ?_)
                have eB : ∀ lv, B k lv = strF F L c leaf m' k lv (dG F (nI f)) := fun lv => by rw [← hB]; rfl
                rw [eB]
                exact w2
            refine br_t c4 ?_
            by_cases c6 : kd L node f k = []
            · rw [if_pos c6] at f3
              refine br_t f3.symm ?_
              have := one y l9 f2 f1
              have e8 := f4 c6
              subst e8
              rw [if_pos c6] at this
              exact this
            · rw [if_neg c6] at f3
              refine br_f (by rw [← f3]; decide) (lev1 y 1 _ (Or.inr ⟨f2.1, f2.2.1⟩) ?_)
              rw [if_neg (by decide)]
              have := one y l9 f2 f1
              rw [if_neg c6] at this
              exact this
          · have es := same (fun z => c4 z.2.2)
            exact br_f c4 (next y l8 l9 f1 (by rw [es]; exact f2) (by rw [es]; exact f3) (by rw [es]; exact f4))
        · have es := same (fun z => c3 z.2.1)
          exact bn_f c3 (next y l8 l9 f1 (by rw [es]; exact f2) (by rw [es]; exact f3) (by rw [es]; exact f4))
      · exact bn_f c2 (fin y l8 l9 _ k k1 f1 f2 f3 (Or.inr c2))
    · exact br_t (by (first | omega | (simp (disch := omega) only [Int32.le_iff_toInt_le, Int32.lt_iff_toInt_lt, z_eq, z_in, nI_toInt, z_cl, z_m1, z_sg, z_255, Int32.reduceToInt] <;> omega) | (simp only [Int32.le_iff_toInt_le, Int32.lt_iff_toInt_lt, z_eq, z_in, z_add, z_sub, z_mul, z_neg, z_nI, z_cl, z_sg, z_255, z_lit, Int32.reduceToInt] <;> omega))) (fin y l8 l9 _ k k1 f1 f2 f3 (Or.inl (by omega)))
  · rw [kd_0 (Nat.le_refl _), show goK B (rF F f) [] r = [] from rfl, List.append_nil]
    exact h
  · rw [kd_0 (Nat.le_refl _), if_pos rfl]
