/-! a file's schema is read, model -/
def fdsO (T : Nat → Nat) (st : Nat) : Nat → List SFd → Nat → Rd (List SFd)
  | 0, F, p => .ok (F, p)
  | d + 1, F, p => match fdO T F st p with
    | .error e => .error e
    | .ok (F', q) => fdsO T st d F' q
/-- a group without a field -/
abbrev emG (F : List SFd) : Prop := ∃ f, f < F.length ∧ fTy F f = 4 ∧ ¬ ∃ g, g < F.length ∧ f < g ∧ fPa F g = nI f
def scO (T : Nat → Nat) (st p : Nat) : Rd (List SFd) := match nm4 T 128 15 st p with
  | .error e => .error e
  | .ok (n, q) => if n = 0 then .error 15 else match fdsO T st n [] q with
    | .error e => .error e
    | .ok (F, q1) => if emG F then .error 15 else .ok (F, q1)
def FrSp (x y : St) : Prop := (∀ o k, ¬ (o = 0 ∧ (k = 67 ∨ k = 69)) → y.1 o k = x.1 o k) ∧ (∀ a i, (3 ≤ a → a ≤ 11 → i < s1lo a) → y.2.2.2.1 a i = x.2.2.2.1 a i) ∧ y.2.1 = x.2.1 ∧ y.2.2.1 = x.2.2.1 ∧ y.2.2.2.2 = x.2.2.2.2
section
variable {x y : St} {F : List SFd} {T : Nat → Nat} {n st p : Nat}
theorem FrSp.trans {z : St} (h : FrSp x y) (k : FrSp y z) : FrSp x z :=
  ⟨fun o i c => (k.1 o i c).trans (h.1 o i c), fun a i c => (k.2.1 a i c).trans (h.2.1 a i c), k.2.2.1.trans h.2.2.1, k.2.2.2.1.trans h.2.2.2.1, k.2.2.2.2.trans h.2.2.2.2⟩
theorem s1_lim {a : Nat} : s1lo a ≤ limS a := by
  unfold s1lo limS
  split
  · decide
  · split
    · decide
    · split <;> decide
theorem FrSo.sp (f : FrSo x y) : FrSp x y := ⟨f.1, fun a i c => f.2.1 a i (fun h1 h2 => Nat.lt_of_lt_of_le (c h1 h2) s1_lim), f.2.2.1, f.2.2.2.1, f.2.2.2.2⟩
theorem FrSp.fi (f : FrSp x y) (h : FiM x T n) : FiM y T n := by
  refine h.cg ?_ (fun o => by show y.2.2.2.2.2 o = x.2.2.2.2.2 o; rw [f.2.2.2.2])
  funext i
  exact f.2.1 41 i (fun _ z => absurd z (by decide))
theorem FrSp.kp {N C : Nat} {v w : Int32} {X : Nat → Nat → Int32} (hX : ∀ a, a ≠ 9 → a ≠ 10 → X a = y.2.2.2.1 a) (h9 : X 9 = upd (y.2.2.2.1 9) 1 v) (h10 : X 10 = upd (y.2.2.2.1 10) 1 w) : FrSp y (rowsW y (kpR X 1 N (16 * N) C)) := by
  refine ⟨fun _ _ _ => rfl, fun a i c => ?_, rfl, rfl, rfl⟩
  show kpR X 1 N (16 * N) C a i = _
  unfold kpR
  by_cases a1 : a = 3 ∨ a = 4 ∨ a = 5 ∨ a = 6 ∨ a = 7
  · have l : s1lo a = 128 := by rcases a1 with e | e | e | e | e <;> rw [e] <;> decide
    have := c (by omega) (by omega)
    rw [if_pos a1, cpy_old (by omega), hX a (by omega) (by omega)]
  rw [if_neg a1]
  by_cases a8 : a = 8
  · subst a8
    have : i < 2048 := c (by decide) (by decide)
    rw [if_pos rfl, cpy_old (by omega), hX 8 (by decide) (by decide)]
  rw [if_neg a8]
  by_cases a11 : a = 11
  · subst a11
    have : i < 64 := c (by decide) (by decide)
    rw [if_pos rfl, cpy_old (by omega), hX 11 (by decide) (by decide)]
  rw [if_neg a11]
  by_cases a9 : a = 9
  · subst a9
    have : i < 1 := c (by decide) (by decide)
    rw [h9, upd_ne (by omega)]
  by_cases a10 : a = 10
  · subst a10
    have : i < 1 := c (by decide) (by decide)
    rw [h10, upd_ne (by omega)]
  rw [hX a a9 a10]
theorem WfS_nil : WfS [] := by
  refine ⟨by decide, by decide, ⟨by decide, fun f hf => absurd hf (Nat.not_lt_zero _)⟩, fun f hf => absurd hf (Nat.not_lt_zero _), fun f _ hf => absurd hf (Nat.not_lt_zero _), fun f hf => absurd hf (Nat.not_lt_zero _), fun f h _ hf => absurd hf (Nat.not_lt_zero _)⟩
/-- groups without fields are looked for -/
theorem s_emG {post : St → Prop} {l1 l2 l3 : Int32} (hL : LM x) (hw : WfS F) (hR : RepM x 2 F) (pf : ¬ fI x 0 69 = 0 → post x) (pe : fI x 0 69 = 0 → emG F → post (setI x 0 69 15))
    (pk : fI x 0 69 = 0 → ¬ emG F → wp_Mod_keepSchema (fun (x999 : St) => post x999) 1 x) : j_Mod_openSchema_65 post l1 l2 l3 x := by
  have hF := hw.1
  have n9 : fN x 9 = 3 := hL 9
  have n4 : fN x 4 = 384 := hL 4
  have n5 : fN x 5 = 384 := hL 5
  unfold j_Mod_openSchema_65
  refine lp_Mod_openSchema_67 (fun a0 a1 a2 y => l1 = a0 ∧ l2 = a1 ∧ ∃ f, nI f = a2 ∧ f ≤ F.length ∧ ((x = y ∧ (fI x 0 69 = 0 → ∀ h, h < f → fTy F h = 4 → ∃ g, g < F.length ∧ h < g ∧ fPa F g = nI h)) ∨ (setI x 0 69 15 = y ∧ fI x 0 69 = 0 ∧ emG F))) (fun _ _ a2 _ => F.length - a2.toNatClampNeg) ?_ _ _ _ _ ⟨rfl, rfl, 0, rfl, Nat.zero_le _, Or.inl ⟨rfl, fun _ h hh => absurd hh (Nat.not_lt_zero _)⟩⟩
  rintro S a0 a1 a2 y ⟨rfl, rfl, f, rfl, f1, hy⟩ ih
  have yA : ∀ a, fA y a = fA x a := fun a => by rcases hy with ⟨z, -⟩ | ⟨z, -⟩ <;> rw [← z] <;> rfl
  have yN : ∀ a, fN y a = fN x a := fun a => by rcases hy with ⟨z, -⟩ | ⟨z, -⟩ <;> rw [← z] <;> rfl
  have Ry : RepM y 2 F := by
    unfold RepM
    rw [yA, yA, yA, yA, yA, yA, yA, yA, yA]
    exact hR
  have v9 : vp_in 2 (fN y 9) := by rw [yN]; exact vp_in_nI (n := 2) (by omega) (by omega)
  unfold j_Mod_openSchema_67
  rw [rA2, Ry.1]
  refine ⟨v9, ?_⟩
  by_cases cf : f < F.length
  · refine br_f (by (first | omega | (simp (disch := omega) only [Int32.le_iff_toInt_le, Int32.lt_iff_toInt_lt, z_eq, z_in, nI_toInt, z_cl, z_m1, z_sg, z_255, Int32.reduceToInt] <;> omega) | (simp only [Int32.le_iff_toInt_le, Int32.lt_iff_toInt_lt, z_eq, z_in, z_add, z_sub, z_mul, z_neg, z_nI, z_cl, z_sg, z_255, z_lit, Int32.reduceToInt] <;> omega))) ?_
    unfold wp_Mod_place
    dsimp only
    rw [show (2 : Int32) = nI 2 from rfl, pl_eq]
    refine ⟨by rw [yN]; exact vp_in_nI (by omega) (by omega), ?_⟩
    rw [rA_nI (by omega), (Ry.2.2.1 f cf).2.1]
    -- behind one field
    have nx : ∀ s0 l4 l5, ((s0 = 0 ∧ (fTy F f = 4 → ∃ g, g < F.length ∧ f < g ∧ fPa F g = nI f)) ∨ (s0 = 1 ∧ fTy F f = 4 ∧ ¬ ∃ g, g < F.length ∧ f < g ∧ fPa F g = nI f)) → j_Mod_openSchema_158 post S l1 l2 (nI f) l4 l5 s0 y := fun s0 l4 l5 hs => by
      unfold j_Mod_openSchema_158
      rw [nI_1]
      have go : ∀ u : St, ((x = u ∧ (fI x 0 69 = 0 → ∀ h, h < f + 1 → fTy F h = 4 → ∃ g, g < F.length ∧ h < g ∧ fPa F g = nI h)) ∨ (setI x 0 69 15 = u ∧ fI x 0 69 = 0 ∧ emG F)) → S l1 l2 (nI (f + 1)) u := fun u hu => ih _ _ _ _ ⟨rfl, rfl, f + 1, rfl, by omega, hu⟩ (by rw [nI_clamp (by omega), nI_clamp (by omega)]; omega)
      rcases hs with ⟨rfl, h1⟩ | ⟨rfl, h1, h2⟩
      · refine s_fl0 (go y ?_)
        rcases hy with ⟨z, h⟩ | z
        · refine Or.inl ⟨z, fun e h' hh ht => ?_⟩
          by_cases c : h' = f
          · subst c; exact h1 ht
          · exact h e h' (by omega) ht
        · exact Or.inr z
      · rcases hy with ⟨z, h⟩ | ⟨z, z2, z3⟩
        · subst z
          by_cases c0 : fI x 0 69 = 0
          · exact s_fl1 c0 (go _ (Or.inr ⟨rfl, c0, f, cf, h1, h2⟩))
          · exact s_flt c0 (go _ (Or.inl ⟨rfl, fun e => absurd e c0⟩))
        · refine s_flt ?_ (go _ (Or.inr ⟨z, z2, z3⟩))
          rw [← z, gI_at]; decide
    have loop : ∀ s0, ((s0 = 1 ∧ fTy F f ≠ 4) ∨ (s0 = 0 ∧ fTy F f = 4)) → j_Mod_openSchema_96 post S l1 l2 (nI f) s0 y := fun s0 hs => by
      unfold j_Mod_openSchema_96
      rw [nI_1]
      refine nm_e ?_
      refine lp_Mod_openSchema_103 (fun b0 b1 b2 b3 b4 u => l1 = b0 ∧ l2 = b1 ∧ nI f = b2 ∧ y = u ∧ ∃ g, nI g = b4 ∧ f < g ∧ g ≤ F.length ∧ ((b3 = 1 ∧ (fTy F f = 4 → ∃ h, h < F.length ∧ f < h ∧ fPa F h = nI f)) ∨ (b3 = 0 ∧ fTy F f = 4 ∧ ∀ h, f < h → h < g → fPa F h ≠ nI f))) (fun _ _ _ _ b4 _ => F.length - b4.toNatClampNeg) ?_ _ _ _ _ _ _ ⟨rfl, rfl, rfl, rfl, f + 1, rfl, by omega, cf, by
        rcases hs with ⟨z1, z2⟩ | ⟨z1, z2⟩
        · exact Or.inl ⟨z1, fun z => absurd z z2⟩
        · exact Or.inr ⟨z1, z2, fun h h1 h2 => by omega⟩⟩
      rintro S2 b0 b1 b2 b3 b4 u ⟨rfl, rfl, rfl, rfl, g, rfl, g1, g2, hb⟩ ih2
      unfold j_Mod_openSchema_103
      rw [rA2, Ry.1]
      refine ⟨v9, ?_⟩
      by_cases cg : g < F.length
      · have more : ∀ s, ((s = 1 ∧ (fTy F f = 4 → ∃ h, h < F.length ∧ f < h ∧ fPa F h = nI f)) ∨ (s = 0 ∧ fTy F f = 4 ∧ ∀ h, f < h → h < g + 1 → fPa F h ≠ nI f)) → j_Mod_openSchema_139 post S S2 l1 l2 (nI f) b3 (nI g) s y := fun s hs => by
          unfold j_Mod_openSchema_139
          rw [nI_1]
          exact ih2 _ _ _ _ _ _ ⟨rfl, rfl, rfl, rfl, g + 1, rfl, by omega, by omega, hs⟩ (by rw [nI_clamp (by omega), nI_clamp (by omega)]; omega)
        refine br_f (by (first | omega | (simp (disch := omega) only [Int32.le_iff_toInt_le, Int32.lt_iff_toInt_lt, z_eq, z_in, nI_toInt, z_cl, z_m1, z_sg, z_255, Int32.reduceToInt] <;> omega) | (simp only [Int32.le_iff_toInt_le, Int32.lt_iff_toInt_lt, z_eq, z_in, z_add, z_sub, z_mul, z_neg, z_nI, z_cl, z_sg, z_255, z_lit, Int32.reduceToInt] <;> omega))) ?_
        rcases hb with ⟨rfl, h1⟩ | ⟨rfl, h1, h2⟩
        · refine bn_f (by decide) ?_
          unfold j_Mod_openSchema_134
          exact more 1 (Or.inl ⟨rfl, h1⟩)
        · refine bn_t rfl ?_
          unfold wp_Mod_place
          dsimp only
          rw [show (2 : Int32) = nI 2 from rfl, pl_eq]
          refine ⟨by rw [yN]; exact vp_in_nI (by omega) (by omega), ?_⟩
          rw [rA_nI (by omega), (Ry.2.2.1 g cg).2.2.1]
          by_cases cp : fPa F g = nI f
          · refine bn_t cp ?_
            unfold j_Mod_openSchema_134
            exact more 1 (Or.inl ⟨rfl, fun _ => ⟨g, cg, g1, cp⟩⟩)
          · refine bn_f cp (more 0 (Or.inr ⟨rfl, h1, fun h a b => ?_⟩))
            by_cases e : h = g
            · rw [e]; exact cp
            · exact h2 h a (by omega)
      · refine br_t (by (first | omega | (simp (disch := omega) only [Int32.le_iff_toInt_le, Int32.lt_iff_toInt_lt, z_eq, z_in, nI_toInt, z_cl, z_m1, z_sg, z_255, Int32.reduceToInt] <;> omega) | (simp only [Int32.le_iff_toInt_le, Int32.lt_iff_toInt_lt, z_eq, z_in, z_add, z_sub, z_mul, z_neg, z_nI, z_cl, z_sg, z_255, z_lit, Int32.reduceToInt] <;> omega))) ?_
        rcases hb with ⟨rfl, h1⟩ | ⟨rfl, h1, h2⟩
        · exact bn_f (by decide) (nx 0 _ _ (Or.inl ⟨rfl, h1⟩))
        · refine bn_t rfl (nx 1 _ _ (Or.inr ⟨rfl, h1, ?_⟩))
          rintro ⟨h, a, b, c⟩
          exact h2 h b (by omega) c
    by_cases ct : fTy F f = 4
    · exact br_t ct (loop 0 (Or.inr ⟨rfl, ct⟩))
    · exact br_f ct (loop 1 (Or.inl ⟨rfl, ct⟩))
  · refine br_t (by (first | omega | (simp (disch := omega) only [Int32.le_iff_toInt_le, Int32.lt_iff_toInt_lt, z_eq, z_in, nI_toInt, z_cl, z_m1, z_sg, z_255, Int32.reduceToInt] <;> omega) | (simp only [Int32.le_iff_toInt_le, Int32.lt_iff_toInt_lt, z_eq, z_in, z_add, z_sub, z_mul, z_neg, z_nI, z_cl, z_sg, z_255, z_lit, Int32.reduceToInt] <;> omega))) ?_
    rcases hy with ⟨z, h⟩ | ⟨z, z2, z3⟩
    · subst z
      refine ⟨pf, fun e => pk e ?_⟩
      rintro ⟨k, k1, k2, k3⟩
      exact k3 (h e k (by omega) k2)
    · have : ¬ fI y 0 69 = 0 := by rw [← z, gI_at]; decide
      refine ⟨fun _ => ?_, fun w => absurd w this⟩
      rw [← z]
      exact pe z2 z3
theorem fdsO_ok (hT : ∀ i, T i < 256) : ∀ d F p F' q, fdsO T st d F p = .ok (F', q) → p ≤ st → p ≤ q ∧ q ≤ st := by
  intro d
  induction d with
  | zero => intro F p F' q h hp; simp only [fdsO, Except.ok.injEq, Prod.mk.injEq] at h; omega
  | succ d ih =>
    intro F p F' q h hp
    simp only [fdsO] at h
    split at h
    · cases h
    rename_i F1 q1 e1
    unfold fdO at e1
    split at e1
    · cases e1
    rename_i k qa ea
    have := fxd_ok hT ea
    split at e1
    · cases e1
    rename_i g qb eb
    have := vrd_ok hT eb
    split at e1
    · cases e1
    rename_i m qc ec
    have := vrd_ok hT ec
    split at e1
    · cases e1
    split at e1
    · cases e1
    split at e1
    · cases e1
    simp only [Except.ok.injEq, Prod.mk.injEq] at e1
    have := ih _ _ _ _ h (by omega)
    omega
theorem s_openSchema {post : St → Prop} (hF : FiM x T n) (h0 : fI x 0 69 = 0) (hp : fI x 0 67 = nI p) (hps : p ≤ st) (hst : st ≤ n)
    (pe : ∀ e y, scO T st p = .error e → FrSp x y → Flt y e → post y)
    (pk : ∀ F q y, scO T st p = .ok (F, q) → FrSp x y → fI y 0 69 = 0 → fI y 0 67 = nI q → RepM y 1 F → WfS F → ¬ emG F → F ≠ [] → p ≤ q → q ≤ st → post y) : wp_Mod_openSchema post (nI st) x := by
  have hn := hF.2.1
  have hT := hF.2.2.1
  have n9 : fN x 9 = 3 := hF.1 9
  have n10 : fN x 10 = 3 := hF.1 10
  unfold wp_Mod_openSchema
  rw [show (2 : Int32) = nI 2 from rfl]
  refine ⟨vp_in_nI (by omega) (by omega), nm_e ⟨vp_in_nI (by show _ < fN x 10; omega) (by show fN x 10 < _; omega), nm_e ?_⟩⟩
  have fg : FrSo x (setA (setA x 9 (nI 2) 0) 10 (nI 2) 0) := by
    refine ⟨fun _ _ _ => rfl, fun a i c => ?_, rfl, rfl, rfl⟩
    show fA (setA (setA x 9 (nI 2) 0) 10 (nI 2) 0) a i = fA x a i
    by_cases e : i = 2
    · rw [gA_ne (fun z => by subst z; have := c (by decide) (by decide); rw [show limS 10 = 2 from rfl] at this; omega), gA_ne (fun z => by subst z; have := c (by decide) (by decide); rw [show limS 9 = 2 from rfl] at this; omega)]
    · rw [gA_off (by decide) e, gA_off (by decide) e]
  have gR : RepM (setA (setA x 9 (nI 2) 0) 10 (nI 2) 0) 2 [] := by
    refine ⟨?_, ?_, fun f hf => absurd hf (Nat.not_lt_zero _), fun f hf => absurd hf (Nat.not_lt_zero _)⟩
    · rw [gA_ne (by decide), gA_on (by decide)]; rfl
    · rw [gA_on (by decide)]; rfl
  have gI : ∀ k, fI (setA (setA x 9 (nI 2) 0) 10 (nI 2) 0) 0 k = fI x 0 k := fun _ => rfl
  generalize setA (setA x 9 (nI 2) 0) 10 (nI 2) 0 = g at fg gR gI
  have rd : ∀ {a b : St} {F : List SFd}, FrRd a b → RepM a 2 F → RepM b 2 F := fun {a b F} f h => by
    have e : ∀ r, fA b r = fA a r := fun r => f.2.2.2.1 r id
    unfold RepM
    rw [e, e, e, e, e, e, e, e, e]
    exact h
  -- behind a fault
  have bad : ∀ (u : St) e F l2 l3, Flt u e → scO T st p = .error e → FrSo x u → RepM u 2 F → WfS F → j_Mod_openSchema_65 post (nI st) l2 l3 u := fun u e F l2 l3 hf he hu hRu hwu => s_emG (hu.fi hF).1 hwu hRu (fun _ => pe e u he hu.sp hf) (fun z => absurd z hf.ne) (fun z => absurd z hf.ne)
  have bad42 : ∀ (u : St) e F l2 l3, Flt u e → scO T st p = .error e → FrSo x u → RepM u 2 F → WfS F → ∃ m : Nat, wl_Mod_openSchema_42 post m (nI st) l2 l3 u := fun u e F l2 l3 hf he hu hRu hwu => ⟨1, by
    unfold wl_Mod_openSchema_42 j_Mod_openSchema_42
    exact ⟨fun _ => bad u e F _ _ hf he hu hRu hwu, fun _ => ⟨fun _ => bad u e F _ _ hf he hu hRu hwu, fun z => absurd z hf.ne⟩⟩⟩
  rw [show (128 : Int32) = nI 128 from rfl, show (15 : Int32) = nI 15 from rfl]
  refine s_num4 (fg.fi hF) ((gI 69).trans h0) ((gI 67).trans hp) hps hst (by decide) (by decide) (by decide) (fun e u u1 u2 u3 => ?_) (fun m q u u1 u2 u3 u4 => ?_)
  · have he : scO T st p = .error e := by unfold scO; rw [u1]
    have fu := FrSo.trans fg u2.so
    unfold j_Mod_openSchema_35
    exact ⟨fun z => absurd rfl z, fun _ => s_flt u3.ne (bad42 u e [] _ _ u3 he fu (rd u2 gR) WfS_nil)⟩
  · have mo := nm4_ok hT u1
    have fu := FrSo.trans fg u2.so
    have es : scO T st p = (if m = 0 then .error 15 else match fdsO T st m [] q with
      | .error e => .error e
      | .ok (F, q1) => if emG F then .error 15 else .ok (F, q1)) := by unfold scO; rw [u1]
    unfold j_Mod_openSchema_35
    by_cases c0 : m = 0
    · rw [if_pos c0] at es
      refine ⟨fun z => absurd (by rw [c0]; rfl) z, fun _ => s_fl1 u4 ?_⟩
      exact bad42 _ 15 [] _ _ ⟨gI_at, by decide, by decide⟩ es (FrSo.trans fu (FrSo.i (by decide))) (RepM.I (rd u2 gR)) WfS_nil
    · rw [if_neg c0] at es
      refine ⟨fun _ => s_fl0 ?_, fun z => absurd (nI_inj (b := 0) (by omega) (by decide) z) c0⟩
      refine lp_Mod_openSchema_42 (fun a0 a1 a2 v => nI st = a0 ∧ nI m = a1 ∧ ∃ f, nI f = a2 ∧ f ≤ m ∧ FrSo x v ∧ ∃ F, RepM v 2 F ∧ WfS F ∧ ((∃ e, scO T st p = .error e ∧ Flt v e) ∨ (∃ q', F.length = f ∧ fdsO T st m [] q = fdsO T st (m - f) F q' ∧ fI v 0 69 = 0 ∧ fI v 0 67 = nI q' ∧ p ≤ q' ∧ q' ≤ st))) (fun _ _ a2 _ => m - a2.toNatClampNeg) ?_ _ _ _ _ ⟨rfl, rfl, 0, rfl, Nat.zero_le _, fu, [], rd u2 gR, WfS_nil, Or.inr ⟨q, rfl, rfl, u4, u3, by omega, mo.2.2⟩⟩
      rintro S a0 a1 a2 v ⟨rfl, rfl, f, rfl, f1, fv, F, Rv, Wv, hv⟩ ih
      unfold j_Mod_openSchema_42
      rcases hv with ⟨e, e1, e2⟩ | ⟨q', h1, h2, h3, h4, h5, h6⟩
      · exact ⟨fun _ => bad v e F _ _ e2 e1 fv Rv Wv, fun _ => ⟨fun _ => bad v e F _ _ e2 e1 fv Rv Wv, fun z => absurd z e2.ne⟩⟩
      · by_cases cf : f < m
        · refine br_f (by (first | omega | (simp (disch := omega) only [Int32.le_iff_toInt_le, Int32.lt_iff_toInt_lt, z_eq, z_in, nI_toInt, z_cl, z_m1, z_sg, z_255, Int32.reduceToInt] <;> omega) | (simp only [Int32.le_iff_toInt_le, Int32.lt_iff_toInt_lt, z_eq, z_in, z_add, z_sub, z_mul, z_neg, z_nI, z_cl, z_sg, z_255, z_lit, Int32.reduceToInt] <;> omega))) ⟨fun z => absurd h3 z, fun _ => ?_⟩
          have st1 : fdsO T st m [] q = (match fdO T F st q' with
            | .error e => .error e
            | .ok (F', q) => fdsO T st (m - (f + 1)) F' q) := by
            rw [h2, show m - f = (m - (f + 1)) + 1 by omega]
            rfl
          rw [nI_1]
          refine s_openField (fv.fi hF) Wv Rv h3 h4 h6 hst (fun e w w1 w2 w3 w4 => ?_) (fun F' q2 w w1 w2 w3 w4 w5 w6 w7 w8 w9 => ?_)
          · refine ih _ _ _ _ ⟨rfl, rfl, f + 1, rfl, by omega, FrSo.trans fv w2, F, w4, Wv, Or.inl ⟨e, ?_, w3⟩⟩ (by rw [nI_clamp (by omega), nI_clamp (by omega)]; omega)
            rw [es, st1, w1]
          · refine ih _ _ _ _ ⟨rfl, rfl, f + 1, rfl, by omega, FrSo.trans fv w2, F', w5, w6, Or.inr ⟨q2, by omega, ?_, w3, w4, by omega, w8⟩⟩ (by rw [nI_clamp (by omega), nI_clamp (by omega)]; omega)
            rw [st1, w1]
        · have ef : f = m := by omega
          rw [ef, Nat.sub_self] at h2
          have h2 : fdsO T st m [] q = .ok (F, q') := h2
          rw [h2] at es
          simp only at es
          refine br_t (by (first | omega | (simp (disch := omega) only [Int32.le_iff_toInt_le, Int32.lt_iff_toInt_lt, z_eq, z_in, nI_toInt, z_cl, z_m1, z_sg, z_255, Int32.reduceToInt] <;> omega) | (simp only [Int32.le_iff_toInt_le, Int32.lt_iff_toInt_lt, z_eq, z_in, z_add, z_sub, z_mul, z_neg, z_nI, z_cl, z_sg, z_255, z_lit, Int32.reduceToInt] <;> omega))) (s_emG (fv.fi hF).1 Wv Rv (fun z => absurd h3 z) (fun _ hem => ?_) (fun _ hem => ?_))
          · rw [if_pos hem] at es
            exact pe 15 _ es (FrSo.trans fv (FrSo.i (by decide))).sp ⟨gI_at, by decide, by decide⟩
          · rw [if_neg hem] at es
            rw [show (1 : Int32) = nI 1 from rfl]
            refine s_keepSchema (q := 1) (fv.fi hF).1 (by decide) Rv.1 Wv.1 Rv.2.1 Wv.2.1 ?_
            generalize hX : (fun a => if a = 9 then upd (v.2.2.2.1 9) 1 (nI F.length) else if a = 10 then upd (v.2.2.2.1 10) 1 (nI (ncol F)) else v.2.2.2.1 a) = X
            have x9 : X 9 = upd (v.2.2.2.1 9) 1 (nI F.length) := by rw [← hX]; rfl
            have x10 : X 10 = upd (v.2.2.2.1 10) 1 (nI (ncol F)) := by rw [← hX]; rfl
            have xo : ∀ a, a ≠ 9 → a ≠ 10 → X a = v.2.2.2.1 a := fun a a9 a10 => by rw [← hX]; show (if a = 9 then _ else if a = 10 then _ else _) = _; rw [if_neg a9, if_neg a10]
            have rK := RepM_kp Wv (q := 1) (by decide) Rv xo (by rw [x9, upd_at]) (by rw [x10, upd_at])
            have fK : FrSp v (rowsW v (kpR X 1 F.length (16 * F.length) (ncol F))) := FrSp.kp xo x9 x10
            exact pk F q' _ es (FrSp.trans fv.sp fK) h3 h4 rK Wv hem (fun z => by rw [z] at h1; have : f = 0 := h1.symm; omega) h5 h6
end
