/-! the class: one more field -/
/-- nothing has changed but int fields as I says, rows of ints as A says -/
def Fr (I : Nat → Nat → Prop) (A : Nat → Prop) (x y : St) : Prop := (∀ o k, ¬ I o k → y.1 o k = x.1 o k) ∧ (∀ a, ¬ A a → y.2.2.2.1 a = x.2.2.2.1 a) ∧ y.2.1 = x.2.1 ∧ y.2.2.1 = x.2.2.1 ∧ y.2.2.2.2 = x.2.2.2.2
theorem Fr.refl {I : Nat → Nat → Prop} {A : Nat → Prop} (x : St) : Fr I A x x := ⟨fun _ _ _ => rfl, fun _ _ => rfl, rfl, rfl, rfl⟩
theorem Fr.trans {I : Nat → Nat → Prop} {A : Nat → Prop} {x y z : St} (h : Fr I A x y) (k : Fr I A y z) : Fr I A x z :=
  ⟨fun o i c => (k.1 o i c).trans (h.1 o i c), fun a c => (k.2.1 a c).trans (h.2.1 a c), k.2.2.1.trans h.2.2.1, k.2.2.2.1.trans h.2.2.2.1, k.2.2.2.2.trans h.2.2.2.2⟩
theorem Fr.wk {I J : Nat → Nat → Prop} {A B : Nat → Prop} {x y : St} (h : Fr I A x y) (hI : ∀ o k, I o k → J o k) (hA : ∀ a, A a → B a) : Fr J B x y :=
  ⟨fun o k c => h.1 o k (fun z => c (hI o k z)), fun a c => h.2.1 a (fun z => c (hA a z)), h.2.2.1, h.2.2.2.1, h.2.2.2.2⟩
theorem Fr.I {I : Nat → Nat → Prop} {A : Nat → Prop} {x : St} {o k : Nat} {v : Int32} (h : I o k) : Fr I A x (setI x o k v) := by
  refine ⟨fun a b c => ?_, fun _ _ => rfl, rfl, rfl, rfl⟩
  show (if a = o ∧ b = k then v else x.1 a b) = _
  rw [if_neg (fun z => c (by rw [z.1, z.2]; exact h))]
theorem Fr.A {I : Nat → Nat → Prop} {A : Nat → Prop} {x : St} {o : Nat} {i v : Int32} (h : A o) : Fr I A x (setA x o i v) := by
  refine ⟨fun _ _ _ => rfl, fun a c => ?_, rfl, rfl, rfl⟩
  exact gA_ne (fun z => c (by rw [z]; exact h))
theorem Fr.W {I : Nat → Nat → Prop} {A : Nat → Prop} {x : St} {o : Nat} {f : Nat → Int32} (h : A o) : Fr I A x (setW x o f) := by
  refine ⟨fun _ _ _ => rfl, fun a c => ?_, rfl, rfl, rfl⟩
  exact gW_ne (fun z => c (by rw [z]; exact h))
/-- around a group there are groups alone -/
theorem grp_one {F : List SFd} (hw : WfS F) : ∀ f, f < F.length → fTy F f = 4 → upS (wGrp (fTy F)) (fPa F) (nI f) = upS wOne (fPa F) (nI f) := by
  intro f
  induction f using Nat.strongRecOn with
  | ind f ih =>
    intro hf ht
    rw [upS_at hw.2.2.1 hf, upS_at hw.2.2.1 hf, show wGrp (fTy F) f = 1 from if_pos ht]
    rcases hw.2.2.1.2 f hf with c | ⟨g, hg, c⟩
    · rw [c, upS_neg, upS_neg]; rfl
    · rw [c, ih g hg (by omega) (hw.2.2.2.2.1 f g hf c hg).1]; rfl
theorem grp_in {F : List SFd} {g : Int32} (hw : WfS F) (hg : gIn F g) : upS (wGrp (fTy F)) (fPa F) g = upS wOne (fPa F) g := by
  rcases hg with rfl | ⟨f, h1, h2, h3, -⟩
  · rw [upS_neg, upS_neg]
  · rw [h2, grp_one hw f h1 h3]
theorem upS_le {w : Nat → Nat} {P : Nat → Int32} {g : Int32} (h : ∀ f, w f ≤ 1) : upS w P g ≤ 128 := by
  have : ∀ k g, upF w P k g ≤ k := by
    intro k
    induction k with
    | zero => intro g; exact Nat.le_refl 0
    | succ k ih =>
      intro g
      show (if g = -1 then 0 else w g.toNatClampNeg + upF w P k (P g.toNatClampNeg)) ≤ k + 1
      split
      · omega
      · have := ih (P g.toNatClampNeg)
        have := h g.toNatClampNeg
        omega
  exact this 128 g
/-- row 8 while the groups around are told that one field more lies in them -/
def psR (P : Nat → Int32) (gr g : Int32) (N : Nat) (old : Nat → Int32) : Nat → Int32 := fun i => if upS (ind i) P gr = 1 ∧ upS (ind i) P g = 0 then nI (N + 1) else old i
abbrev rwS (s : Nat) (r : Nat) : Prop := ∃ k, 2 ≤ k ∧ k ≤ 12 ∧ r = stC s k
theorem c_add258 {post : Int32 → St → Prop} {Y : St} {s N q : Nat} {gr kd ty b5 b6 b7 b8 : Int32} {P : Nat → Int32} (hs : SchId s) (hL : LC Y) (hP : wfP P N) (hN : N < 128) (hgr : gOk N gr) (hd : upS wOne P gr ≤ 16) (hp4 : ∀ f, f < N → fA Y (stC s 4) f = P f) (h0 : fI Y s 0 = nI (N + 1))
    (p : ∀ l10 l11, j_Sch_add_297 post s kd ty gr q b5 b6 b7 b8 (nI N) l10 l11 (setW Y (stC s 8) (psR P gr (-1) N (fA Y (stC s 8))))) : ∃ m, wl_Sch_add_258 post m s kd ty gr q b5 b6 b7 b8 (nI N) gr 0 Y := by
  have l4 : fN Y (stC s 4) = 128 := hL.s hs (by decide) (by decide)
  have l8 : fN Y (stC s 8) = 128 := hL.s hs (by decide) (by decide)
  have h48 : stC s 4 ≠ stC s 8 := sch_ne s hs 4 (by decide) (by decide) 8 (by decide) (by decide) (by decide)
  have hPN := hP.1
  have z0 : ∀ i g, gOk N g → upS (ind i) P g ≤ 1 := by
    intro i g hg
    rcases hg with rfl | ⟨f, hf, rfl⟩
    · rw [upS_neg]; omega
    · induction f using Nat.strongRecOn with
      | ind f ih =>
        rw [upS_at hP hf]
        by_cases c : f = i
        · subst c
          have := ind_self hP hf
          rw [upS_at hP hf] at this
          omega
        · rw [show ind i f = 0 from if_neg c]
          rcases hP.2 f hf with e | ⟨g, hg, e⟩
          · rw [e, upS_neg]; omega
          · rw [e]
            have := ih g hg (by omega)
            omega
  refine lp_Sch_add_258 (fun a0 a1 a2 a3 a4 a5 a6 a7 a8 a9 a10 a11 y => s = a0 ∧ kd = a1 ∧ ty = a2 ∧ gr = a3 ∧ q = a4 ∧ b5 = a5 ∧ b6 = a6 ∧ b7 = a7 ∧ b8 = a8 ∧ nI N = a9 ∧ gOk N a10 ∧ setW Y (stC s 8) (psR P gr a10 N (fA Y (stC s 8))) = y ∧ (∀ i, upS (ind i) P a10 = 1 → upS (ind i) P gr = 1) ∧ ∃ c, nI c = a11 ∧ c + upS wOne P a10 = upS wOne P gr) (fun _ _ _ _ _ _ _ _ _ _ a10 _ _ => gM a10) ?_ _ _ _ _ _ _ _ _ _ _ _ _ _ ⟨rfl, rfl, rfl, rfl, rfl, rfl, rfl, rfl, rfl, rfl, hgr, ?_, fun _ h => h, 0, rfl, by omega⟩
  · rintro R a0 a1 a2 a3 a4 a5 a6 a7 a8 a9 a10 a11 y ⟨rfl, rfl, rfl, rfl, rfl, rfl, rfl, rfl, rfl, rfl, hg, rfl, hsub, c, rfl, hc⟩ ih
    unfold j_Sch_add_258
    refine br_f (by (first | omega | (simp (disch := omega) only [Int32.le_iff_toInt_le, Int32.lt_iff_toInt_lt, z_eq, z_in, nI_toInt, z_cl, z_m1, z_sg, z_255, Int32.reduceToInt] <;> omega) | (simp only [Int32.le_iff_toInt_le, Int32.lt_iff_toInt_lt, z_eq, z_in, z_add, z_sub, z_mul, z_neg, z_nI, z_cl, z_sg, z_255, z_lit, Int32.reduceToInt] <;> omega))) ?_
    rcases hg with rfl | ⟨f, hf, rfl⟩
    · exact br_t rfl (p _ _)
    · refine br_f (nI_nm1 (by omega)) ⟨?_, nm_r (e' := setW Y (stC s 8) (psR P gr (P f) N (fA Y (stC s 8)))) ?_ ⟨?_, ?_⟩⟩
      · show vp_in _ (fN Y (stC s 8))
        rw [l8]; exact vp_in_nI (by omega) (by decide)
      · rw [show fI (setW Y (stC s 8) (psR P gr (nI f) N (fA Y (stC s 8)))) s 0 = nI (N + 1) from h0, setA_setW, nI_clamp (by omega)]
        congr 1
        funext i
        show (if i = f then nI (N + 1) else psR P gr (nI f) N (fA Y (stC s 8)) i) = psR P gr (P f) N (fA Y (stC s 8)) i
        unfold psR
        by_cases e : i = f
        · subst e
          have k1 := hsub i (ind_self hP hf)
          have k2 : upS (ind i) P (P i) = 0 := by
            have := ind_self hP hf
            rw [upS_at hP hf, show ind i i = 1 from if_pos rfl] at this
            omega
          rw [if_pos rfl, if_pos ⟨k1, k2⟩]
        · rw [if_neg e]
          have k3 : upS (ind i) P (nI f) = upS (ind i) P (P f) := by rw [upS_at hP hf, show ind i f = 0 from if_neg (fun z => e z.symm)]; omega
          rw [k3]
      · show vp_in _ (fN Y (stC s 4))
        rw [l4]; exact vp_in_nI (by omega) (by decide)
      · refine nm_r (e' := P f) (by rw [rA_nI (by omega), gW_ne h48]; exact hp4 f hf) ?_
        rw [nI_1]
        rw [upS_at hP hf] at hc
        refine ih _ _ _ _ _ _ _ _ _ _ _ _ _ ⟨rfl, rfl, rfl, rfl, rfl, rfl, rfl, rfl, rfl, rfl, hP.ok hf, rfl, ?_, c + 1, rfl, by have : wOne f = 1 := rfl; omega⟩ (gM_lt hP hf)
        intro i hi
        refine hsub i ?_
        rw [upS_at hP hf, hi]
        have := z0 i (nI f) (Or.inr ⟨f, hf, rfl⟩)
        rw [upS_at hP hf, hi] at this
        omega
  · refine setW_self ?_
    funext i
    unfold psR
    rw [if_neg (by omega)]
