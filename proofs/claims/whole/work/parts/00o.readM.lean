/-! the model reads a SCHEMA -/
def limS (a : Nat) : Nat := if a = 8 then 4096 else if a = 9 ∨ a = 10 then 2 else if a = 11 then 128 else 256
/-- nothing but slot 2 of the schemas, the place and the fault of the text has changed -/
def FrS (x y : St) : Prop := (∀ o k, ¬ (o = 0 ∧ (k = 16 ∨ k = 17)) → y.1 o k = x.1 o k) ∧ (∀ a i, (3 ≤ a → a ≤ 11 → i < limS a) → y.2.2.2.1 a i = x.2.2.2.1 a i) ∧ y.2.1 = x.2.1 ∧ y.2.2.1 = x.2.2.1 ∧ y.2.2.2.2 = x.2.2.2.2
theorem FrS.refl (x : St) : FrS x x := ⟨fun _ _ _ => rfl, fun _ _ _ => rfl, rfl, rfl, rfl⟩
theorem FrS.trans {x y z : St} (h : FrS x y) (k : FrS y z) : FrS x z :=
  ⟨fun o i c => (k.1 o i c).trans (h.1 o i c), fun a i c => (k.2.1 a i c).trans (h.2.1 a i c), k.2.2.1.trans h.2.2.1, k.2.2.2.1.trans h.2.2.2.1, k.2.2.2.2.trans h.2.2.2.2⟩
theorem FrS.at16 {x : St} {v : Int32} : FrS x (setI x 0 16 v) := by
  refine ⟨fun o k c => ?_, fun _ _ _ => rfl, rfl, rfl, rfl⟩
  show (if o = 0 ∧ k = 16 then v else x.1 o k) = _
  rw [if_neg (fun z => c ⟨z.1, Or.inl z.2⟩)]
theorem FrS.at17 {x : St} {v : Int32} : FrS x (setI x 0 17 v) := by
  refine ⟨fun o k c => ?_, fun _ _ _ => rfl, rfl, rfl, rfl⟩
  show (if o = 0 ∧ k = 17 then v else x.1 o k) = _
  rw [if_neg (fun z => c ⟨z.1, Or.inr z.2⟩)]
theorem FrS.A {x : St} {a : Nat} {i : Nat} {v : Int32} (h3 : 3 ≤ a) (h11 : a ≤ 11) (hi : limS a ≤ i) (hb : i < 2 ^ 31) : FrS x (setA x a (nI i) v) := by
  refine ⟨fun _ _ _ => rfl, fun b j c => ?_, rfl, rfl, rfl⟩
  show (if b = a then upd (x.2.2.2.1 a) (nI i).toNatClampNeg v else x.2.2.2.1 b) j = _
  by_cases e : b = a
  · subst e
    have := c h3 h11
    rw [if_pos rfl, nI_clamp hb, upd_ne (by omega)]
  · rw [if_neg e]
theorem FrS.W8 {x : St} {f : Nat → Int32} {s d n : Nat} (hd : 4096 ≤ d) : FrS x (setW x 8 (va_cpy f (fA x 8) s d n)) := by
  refine ⟨fun _ _ _ => rfl, fun b j c => ?_, rfl, rfl, rfl⟩
  show (if b = 8 then va_cpy f (fA x 8) s d n else x.2.2.2.1 b) j = _
  by_cases e : b = 8
  · subst e
    have : j < 4096 := c (by decide) (by decide)
    rw [if_pos rfl]
    show (if d ≤ j ∧ j < d + n then _ else _) = _
    rw [if_neg (by omega)]
  · rw [if_neg e]
theorem FrS.ad {x : St} {kd ty g : Int32} {r fr n N C : Nat} (hN : N < 128) (hC : C ≤ 64) : FrS x (adF x kd ty g r fr n N C) := by
  have n2 : (2 : Int32) = nI 2 := rfl
  unfold adF
  rw [n2]
  have l0 : ∀ a, 3 ≤ a → a ≤ 7 → limS a = 256 := fun a h3 h7 => by unfold limS; rw [if_neg (by omega), if_neg (by omega), if_neg (by omega)]
  have a1 := @FrS.A x 3 (256 + N) kd (by decide) (by decide) (by rw [l0 3 (by decide) (by decide)]; omega) (by omega)
  have a2 := a1.trans (@FrS.A _ 4 (256 + N) ty (by decide) (by decide) (by rw [l0 4 (by decide) (by decide)]; omega) (by omega))
  have a3 := a2.trans (@FrS.A _ 5 (256 + N) g (by decide) (by decide) (by rw [l0 5 (by decide) (by decide)]; omega) (by omega))
  have a4 := a3.trans (@FrS.A _ 7 (256 + N) (nI n) (by decide) (by decide) (by rw [l0 7 (by decide) (by decide)]; omega) (by omega))
  have a5 := fun f : Nat → Int32 => a4.trans (@FrS.W8 _ f fr (16 * (256 + N)) n (by omega))
  have a6 := fun (f : Nat → Int32) (v : Int32) => (a5 f).trans (@FrS.A _ 6 (256 + N) v (by decide) (by decide) (by rw [l0 6 (by decide) (by decide)]; omega) (by omega))
  by_cases d : ty = 4
  · simp only [if_pos d]
    exact (a6 _ (-1)).trans (FrS.A (by decide) (by decide) (by decide) (by decide))
  · simp only [if_neg d]
    exact (((a6 _ (nI C)).trans (FrS.A (by decide) (by decide) (by show 128 ≤ _; omega) (by omega))).trans (FrS.A (by decide) (by decide) (by decide) (by decide))).trans (FrS.A (by decide) (by decide) (by decide) (by decide))
theorem adF_I {x : St} {kd ty g : Int32} {r fr n N C : Nat} : (adF x kd ty g r fr n N C).1 = x.1 := by
  unfold adF
  by_cases d : ty = 4
  · simp only [if_pos d]; rfl
  · simp only [if_neg d]; rfl
theorem TxM.fr {x y : St} {T : Nat → Int32} {n : Nat} (h : TxM x T n) (f : FrS x y) : TxM y T n := by
  obtain ⟨h1, h2, h3, h4⟩ := h
  refine ⟨?_, h2, ?_, fun i hi => ?_⟩
  · exact (f.1 0 15 (by decide)).trans h1
  · show y.2.2.2.2.2 2 = _
    rw [f.2.2.2.2]
    exact h3
  · refine ⟨?_, (h4 i hi).2⟩
    exact (f.2.1 2 i (fun z => absurd z (by decide))).trans (h4 i hi).1
theorem LM.fr {x y : St} (h : LM x) (f : FrS x y) : LM y := by
  intro o
  show y.2.2.2.2.2 o = _
  rw [f.2.2.2.2]
  exact h o
/-- setting the place or the fault leaves the schemas -/
theorem RepM.I {x : St} {q k : Nat} {F : List SFd} {v : Int32} (h : RepM x q F) : RepM (setI x 0 k v) q F := h
theorem LM.I {x : St} {o k : Nat} {v : Int32} (h : LM x) : LM (setI x o k v) := h
/-- a group into which a field may come next -/
def gIn (F : List SFd) (g : Int32) : Prop := g = -1 ∨ ∃ f, f < F.length ∧ g = nI f ∧ fTy F f = 4 ∧ upS (fun h => if h = f then 1 else 0) (fPa F) (nI (F.length - 1)) = 1
theorem gIn.ok {F : List SFd} {g : Int32} (h : gIn F g) : gOk F.length g := by
  rcases h with h | ⟨f, h1, h2, -⟩
  · exact Or.inl h
  · exact Or.inr ⟨f, h1, h2⟩
theorem upF_cg {w : Nat → Nat} {P Q : Nat → Int32} {N : Nat} (hP : wfP P N) (e : ∀ f, f < N → P f = Q f) : ∀ k g, gOk N g → upF w P k g = upF w Q k g := by
  have h1 := hP.1
  intro k
  induction k with
  | zero => intro g _; rfl
  | succ k ih =>
    intro g hg
    rcases hg with rfl | ⟨f, hf, rfl⟩
    · rw [upF_neg, upF_neg]
    · rw [upF_s (by omega), upF_s (by omega), ← e f hf, ih _ (hP.ok hf)]
theorem upS_cg {w : Nat → Nat} {P Q : Nat → Int32} {N : Nat} {g : Int32} (hP : wfP P N) (e : ∀ f, f < N → P f = Q f) (hg : gOk N g) : upS w P g = upS w Q g := upF_cg hP e 128 g hg
theorem RepM.wf {x : St} {q : Nat} {F : List SFd} (h : RepM x q F) (hw : WfS F) : wfP (mP x q) F.length := by
  refine ⟨hw.1, fun f hf => ?_⟩
  rw [show mP x q f = fPa F f from (h.2.2.1 f hf).2.2.1]
  exact hw.2.2.1.2 f hf
theorem RepM.up {x : St} {q : Nat} {F : List SFd} {w : Nat → Nat} {g : Int32} (h : RepM x q F) (hw : WfS F) (hg : gOk F.length g) : upS w (mP x q) g = upS w (fPa F) g :=
  upS_cg (h.wf hw) (fun f hf => (h.2.2.1 f hf).2.2.1) hg
