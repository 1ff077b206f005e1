/-! one value of a field is written, class -/
abbrev FAs (x y : St) : Prop := FX (fun o k => o = 147 ∧ (k = 1 ∨ k = 2 ∨ k = 5 ∨ k = 6)) no2 no2 (fun a => a = 150) no1 (fun o => o = 147) x y
theorem FK.as {x y : St} (h : FK 147 x y) : FAs x y := h.mono (fun t e => by rw [e]; exact sn147) (fun _ _ => id) (fun _ _ z => z) (fun _ _ z => z) (fun _ _ z => z) (fun _ z => z.elim) (fun _ z => z.elim) (fun _ z => z)
theorem FAs.trans {x y z : St} (h : FAs x y) (k : FAs y z) : FAs x z := FX.trans (fun _ _ => id) id (fun t e => by rw [e]; exact sn147) h k
theorem FAs.a {x : St} {i v : Int32} : FAs x (setA x 150 i v) := by
  refine ⟨fun _ _ _ => rfl, fun _ _ _ => rfl, fun _ _ _ _ => rfl, fun a _ c _ => ⟨?_, rfl⟩, fun _ _ => rfl, fun _ _ => rfl, fun t r a b => Or.inl ⟨t, a, b⟩⟩
  show (if a = 150 then _ else _) = _
  rw [if_neg c]
theorem FAs.row {r : Nat} {x y : St} (hr : stRow r) (h150 : r ≠ 150) (hK : SkS x) (f : FAs x y) : fA y r = fA x r ∧ fN y r = fN x r := f.2.2.2.1 r (Or.inl hr.1) h150 (fun t e => by rw [e]; exact stRow_ne sn147 hK hr)
theorem st_vl {r : Nat} (h1 : 71 ≤ r) (h2 : r ≤ 95) : stRow r := by
  have : ∀ k, k < 25 → (71 + k < 152 ∧ ¬ (71 + k = 3 ∨ 71 + k = 6 ∨ 71 + k = 9 ∨ 71 + k = 48 ∨ 71 + k = 51 ∨ 71 + k = 54 ∨ 71 + k = 57 ∨ 71 + k = 60 ∨ 71 + k = 149)) ∧ (71 + k ≠ stC 1 4 ∧ 71 + k ≠ stC 4 4 ∧ 71 + k ≠ stC 7 4 ∧ 71 + k ≠ stC 46 4 ∧ 71 + k ≠ stC 49 4 ∧ 71 + k ≠ stC 52 4 ∧ 71 + k ≠ stC 55 4 ∧ 71 + k ≠ stC 58 4 ∧ 71 + k ≠ stC 147 4) := by decide +kernel
  obtain ⟨⟨a, b⟩, c⟩ := this (r - 71) (by omega)
  rw [show 71 + (r - 71) = r by omega] at a b c
  exact st_of a b c
theorem st150 : stRow 150 := st_of (by decide) (by decide) (by decide +kernel)
theorem st151 : stRow 151 := st_of (by decide) (by decide) (by decide +kernel)
/-- what comes out is put behind what is there, and the cursors go on -/
def AppA (κ : Nat → Nat) (B C : List Nat) (Pre : St → Prop) (R : St → St → Prop) (W : (St → Prop) → Nat → Nat → St → Prop) : Prop := ∃ κ', Kle κ κ' ∧ ∀ x post kb nb, SkS x → Caps x κ → Snk x 147 B → Pre x → KP κ ≤ kb + KP κ' → NP κ ≤ nb + NP κ' → (∀ y, SkS y → Caps y κ' → R x y → Snk y 147 (B ++ C) → post y) → W post kb nb x
section
variable {κ : Nat → Nat} {B C D : List Nat}
theorem AppA.seq {P1 P2 : St → Prop} {R1 R2 R : St → St → Prop} {W1 W2 : (St → Prop) → Nat → Nat → St → Prop} (h1 : AppA κ B C P1 R1 W1) (h2 : ∀ κ1, (∀ t, SnkId t → κ1 t ≤ roomOf t) → AppA κ1 (B ++ C) D P2 R2 W2) (hP : ∀ x y, SkS x → P1 x → R1 x y → P2 y) (hR : ∀ x y z, SkS x → P1 x → R1 x y → SkS y → R2 y z → R x z) :
    AppA κ B (C ++ D) P1 R (fun post kb nb x => ∃ k1 n1 k2 n2 : Nat, k1 + k2 = kb ∧ n1 + n2 = nb ∧ W1 (fun y => W2 post k2 n2 y) k1 n1 x) := by
  obtain ⟨κ1, m1, f1⟩ := h1
  obtain ⟨κ2, m2, f2⟩ := h2 κ1 (fun t ht => (m1 t ht).2)
  refine ⟨κ2, m1.trans m2, fun x post kb nb hK hC h hp hk hn p => ?_⟩
  refine bseq m1 m2 hk hn (fun k1 n1 k2 n2 b1 b2 b3 b4 => f1 x _ k1 n1 hK hC h hp b1 b2 (fun y y1 y2 y3 y4 => f2 y post k2 n2 y1 y2 y4 (hP x y hK hp y3) b3 b4 (fun z z1 z2 z3 z4 => p z z1 z2 (hR x y z hK hp y3 y1 z3) ?_)))
  rw [← List.append_assoc]
  exact z4
theorem AppA.one {P1 : St → Prop} {R1 : St → St → Prop} {W1 : (St → Prop) → Nat → Nat → St → Prop} (h1 : AppA κ B C P1 R1 W1) : AppA κ B C P1 R1 (fun post kb nb x => ∃ k1 n1 k2 n2 : Nat, k1 + k2 = kb ∧ n1 + n2 = nb ∧ W1 (fun y => post y) k1 n1 x) := by
  obtain ⟨κ1, m1, f1⟩ := h1
  exact ⟨κ1, m1, fun x post kb nb hK hC h hp hk hn p => ⟨kb, nb, 0, 0, by omega, by omega, f1 x _ kb nb hK hC h hp hk hn p⟩⟩
theorem AppA.cg {P1 P2 : St → Prop} {R1 R2 : St → St → Prop} {W1 W2 : (St → Prop) → Nat → Nat → St → Prop} (h : AppA κ B C P1 R1 W1) (hP : ∀ x, SkS x → P2 x → P1 x) (hR : ∀ x y, SkS x → P2 x → R1 x y → R2 x y) (e : ∀ post kb nb x, SkS x → P2 x → W1 post kb nb x → W2 post kb nb x) : AppA κ B C P2 R2 W2 := by
  obtain ⟨κ1, m1, f1⟩ := h
  exact ⟨κ1, m1, fun x post kb nb hK hC h hp hk hn p => e _ _ _ _ hK hp (f1 x post kb nb hK hC h (hP x hK hp) hk hn (fun y y1 y2 y3 => p y y1 y2 (hR x y hK hp y3)))⟩
theorem App.as {Pre : St → Prop} {W : (St → Prop) → Nat → Nat → St → Prop} (h : App κ 147 B C Pre W) : AppA κ B C Pre (FK 147) W := h
/-- first the state goes on, with nothing put -/
theorem AppA.first {P1 P2 : St → Prop} {R1 R2 : St → St → Prop} {W1 W2 : (St → Prop) → Nat → Nat → St → Prop} (h : AppA κ B C P1 R1 W1) (e : ∀ x, SkS x → P2 x → ∃ u, SkS u ∧ (Caps x κ → Caps u κ) ∧ (Snk x 147 B → Snk u 147 B) ∧ P1 u ∧ (∀ y, R1 u y → R2 x y) ∧ ∀ post kb nb, W1 post kb nb u → W2 post kb nb x) : AppA κ B C P2 R2 W2 := by
  obtain ⟨κ1, m1, f1⟩ := h
  refine ⟨κ1, m1, fun x post kb nb hK hC h hp hk hn p => ?_⟩
  obtain ⟨u, u1, u2, u3, u4, u5, u6⟩ := e x hK hp
  exact u6 _ _ _ (f1 u post kb nb u1 (u2 hC) (u3 h) u4 hk hn (fun y y1 y2 y3 => p y y1 y2 (u5 y y3)))
end
def TcC (x : St) (F : List SFd) (W : Nat → Bool) (V : Nat → Int64) (b : Nat) (e : Nat → Nat) (S : Nat → List SEn) : Prop := LC x ∧ RepC x 70 F ∧ b ≤ 120255 ∧ fL x 85 = V ∧ (∀ f, f < F.length → fA x 151 f = if gdL F W f = [] then -1 else nI (gdc F W f)) ∧ ∀ c, c < ncol F → W c = true → e c ≤ 10000 ∧ fA x 83 (e c) = 0 ∧ (S c).length ≤ e c ∧ ∀ i, i < (S c).length → EnV x F b (e c - (S c).length + i) ((S c).getD i en0)
def CuC (x : St) (F : List SFd) (W : Nat → Bool) (e : Nat → Nat) (S : Nat → List SEn) (g : Int32) : Prop := ∀ c, c < ncol F → W c = true → inG F g (lfC F c) → fA x 150 c = nI (e c - (S c).length)
def ElC (x y : St) (F : List SFd) (W : Nat → Bool) (g : Int32) : Prop := ∀ c, c < ncol F → W c = true → ¬ inG F g (lfC F c) → fA y 150 c = fA x 150 c
/-- behind a group or a field -/
def RgC (F : List SFd) (W : Nat → Bool) (e : Nat → Nat) (r : Nat) (S : Nat → List SEn) (g : Int32) (x y : St) : Prop := FAs x y ∧ CuC y F W e (fun c => rst r (S c)) g ∧ ElC x y F W g
section
variable {x y : St} {F : List SFd} {W : Nat → Bool} {V : Nat → Int64} {b : Nat} {e : Nat → Nat} {S : Nat → List SEn} {g : Int32}
theorem TcC.fr (hK : SkS x) (h : TcC x F W V b e S) (f : FAs x y) : TcC y F W V b e S := by
  obtain ⟨h1, h2, h3, h4, h5, h6⟩ := h
  have rw' : ∀ r, 71 ≤ r → r ≤ 95 → fA y r = fA x r := fun r a b => (FAs.row (st_vl a b) (by omega) hK f).1
  refine ⟨fun r hr => (f.2.2.2.2.2.1 r hr).trans (h1 r hr), h2.cg7 (f.1 70 0 (by decide)) (f.1 70 1 (by decide)) (fun r a b => rw' r a (by omega)), h3, (f.2.2.2.2.1 85 id).trans h4, fun k hk => by rw [(FAs.row st151 (by decide) hK f).1]; exact h5 k hk, fun c hc wc => ?_⟩
  obtain ⟨a1, a2, a3, a4⟩ := h6 c hc wc
  refine ⟨a1, by rw [rw' 83 (by decide) (by decide)]; exact a2, a3, fun i hi => (a4 i hi).up (by rw [rw' 83 (by decide) (by decide)]) (by rw [rw' 84 (by decide) (by decide)]) (by rw [show fL y 85 = fL x 85 from f.2.2.2.2.1 85 id]) (fun i _ => by rw [rw' 82 (by decide) (by decide)]) (Nat.le_refl _)⟩
theorem TcC.rest (h : TcC x F W V b e S) (r : Nat) : TcC x F W V b e (fun c => rst r (S c)) := by
  obtain ⟨h1, h2, h3, h4, h5, h6⟩ := h
  refine ⟨h1, h2, h3, h4, h5, fun c hc wc => ?_⟩
  obtain ⟨a1, a2, a3, a4⟩ := h6 c hc wc
  refine ⟨a1, a2, ?_⟩
  show (rst r (S c)).length ≤ e c ∧ ∀ i, i < (rst r (S c)).length → EnV x F b (e c - (rst r (S c)).length + i) ((rst r (S c)).getD i en0)
  by_cases z : S c = []
  · rw [z]; exact ⟨Nat.zero_le _, fun i hi => absurd hi (Nat.not_lt_zero _)⟩
  · obtain ⟨k, k1, k2, k3, -⟩ := rst_is r z
    rw [k3, List.length_drop]
    refine ⟨by omega, fun i hi => ?_⟩
    rw [getD_dr, show e c - ((S c).length - k) + i = e c - (S c).length + (k + i) by omega]
    exact a4 (k + i) (by omega)
theorem CuC.k (hK : SkS x) (h : CuC x F W e S g) (f : FK 147 x y) : CuC y F W e S g := fun c hc wc hi => by rw [(fk_row sn147 st150 hK f).1]; exact h c hc wc hi
theorem ElC.k (hK : SkS x) (f : FK 147 x y) : ElC x y F W g := fun c _ _ _ => by rw [(fk_row sn147 st150 hK f).1]
theorem ElC.trans {z : St} (h : ElC x y F W g) (k : ElC y z F W g) : ElC x z F W g := fun c hc wc hn => (k c hc wc hn).trans (h c hc wc hn)
/-- a value by its type -/
theorem k_valW {κ : Nat → Nat} {B : List Nat} {ty a : Nat} {v : PV} {w : Int64} (hty : ty < 4) (hw3 : ty ≠ 3 → w = v.1) (hw : ty = 3 → w = lN (256 * a + v.2.length)) (hκ : ∀ t, SnkId t → κ t ≤ roomOf t) (sG sA sO : (St → Prop) → Nat → Int32 → Int32 → Nat → Nat → St → Prop) (l1 l2 l8 : Int32) : App κ 147 B (vlB ty v) (fun x => ty = 3 → SrT x a v.2) (fun post kb nb x => ((¬ nI ty = 3 → ((¬ nI ty = 0 → (∃ k13 n14 k15 n16 : Nat, k13 + k15 = kb ∧ n14 + n16 = nb ∧ wp_Snk_putDecimal (fun (x17 : St) => post x17) 147 w k13 n14 x)) ∧ (nI ty = 0 → ((¬ (lg_cmp w 1) = 0 → j_Asm_writeOne_102 post sA sG sO 146 l1 l2 (nI ty) l8 w 9 146 kb nb x) ∧ ((lg_cmp w 1) = 0 → j_Asm_writeOne_102 post sA sG sO 146 l1 l2 (nI ty) l8 w 8 146 kb nb x))))) ∧ (nI ty = 3 → (∃ k19 n20 k21 n22 : Nat, k19 + k21 = kb ∧ n20 + n22 = nb ∧ wp_Asm_writeText (fun (x23 : St) => post x23) 146 w k19 n20 x)))) := by
  unfold vlB
  by_cases c3 : ty = 3
  · rw [if_pos c3, hw c3]
    refine App.ex hκ (Z := okT v.2 ∧ a + v.2.length < 2 ^ 20) (fun x hp => ⟨(hp c3).1, by have := (hp c3).2; omega⟩) (fun ⟨z1, z2⟩ => ?_)
    exact ((App.one (k_textW z1 z2 hκ)).pre (fun x _ hp => hp c3)).cg (fun post kb nb x _ _ _ z => bn_t (by rw [c3]; rfl) z)
  rw [if_neg c3, hw3 c3]
  have n3 : ¬ nI ty = 3 := fun z => c3 (nI_inj (b := 3) (by omega) (by decide) z)
  by_cases c0 : ty = 0
  · rw [if_pos c0]
    have e0 : nI ty = 0 := by rw [c0]; rfl
    by_cases c1 : v.1 = 1
    · rw [if_pos c1]
      exact (App.one (k_word (Pre := fun _ => True) st_true (by decide) (fun _ _ _ _ _ => trivial) hκ)).pre (fun _ _ _ => trivial) |>.cg (fun post kb nb x _ _ _ z => bn_f n3 (bn_t e0 (bn_t ((lg_cmp_eq _ _).mpr c1) z)))
    · rw [if_neg c1]
      exact (App.one (k_word (Pre := fun _ => True) st_false (by decide) (fun _ _ _ _ _ => trivial) hκ)).pre (fun _ _ _ => trivial) |>.cg (fun post kb nb x _ _ _ z => bn_f n3 (bn_t e0 (bn_f (fun w => c1 ((lg_cmp_eq _ _).mp w)) z)))
  · rw [if_neg c0]
    exact (App.one (k_dec (Pre := fun _ => True) sn147 hκ)).pre (fun _ _ _ => trivial) |>.cg (fun post kb nb x _ _ _ z => bn_f n3 (bn_f (fun w => c0 (nI_inj (b := 0) (by omega) (by decide) w)) z))
end
