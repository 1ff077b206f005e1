/-! what holds between the class and the model -/
def Tin (s : Nat) : Prop := s = 1 ∨ s = 4 ∨ s = 7 ∨ s = 46
theorem Tin.s {s : Nat} (h : Tin s) : SnkId s := by unfold Tin at h; unfold SnkId; omega
theorem Tin.room {s : Nat} (h : Tin s) : roomOf s = 40000 := by rcases h with rfl | rfl | rfl | rfl <;> rfl
/-- typed bytes, the input, the file -/
def IoP (x y : St) (t i f w c n m : Nat) (U T : Nat → Int32) (B : Nat → Nat) : Prop := (Tin t ∧ Tin i ∧ Tin f ∧ Tin w) ∧ (t ≠ i ∧ t ≠ f ∧ t ≠ w ∧ i ≠ f ∧ i ≠ w ∧ f ≠ w) ∧ (fR x 0 0 = some t ∧ fR x 0 1 = some i ∧ fR x 0 2 = some f ∧ fR x 45 0 = some w) ∧ (∀ s, Tin s → fI x s 5 = 0 ∧ fI x s 6 = 0) ∧ HoldC x t U c ∧ HoldC x i T n ∧ HoldC x f (fun k => nI (B k)) m ∧ (∀ k, B k < 256) ∧ m ≤ 40000 ∧ TpM y U c ∧ InM y T n ∧ fI y 0 65 = nI m ∧ ∀ k, k < m → fA y 41 k = nI (B k)
def IoJ (x y : St) : Prop := ∃ t i f w c n m U T B, IoP x y t i f w c n m U T B
def WrJ (x : St) : Prop := ∃ t b, TB t b ∧ TbI x t b ∧ fI x 49 5 = 0 ∧ fI x 49 6 = 0
/-- the schema and the records -/
def ScP (x y : St) (sc sp : Nat) (F : List SFd) (E : List SEn) (RS : List (List SEn)) : Prop := (sc = 12 ∧ sp = 24 ∨ sc = 24 ∧ sp = 12) ∧ fR x 0 4 = some sc ∧ fR x 0 5 = some sp ∧ WfS F ∧ fI x sc 0 = nI F.length ∧ (F ≠ [] → RepC x sc F) ∧ RsC x F E RS.length ∧ RecI F E RS ∧ (fI y 0 14 = if F = [] then 0 else 1) ∧ (F ≠ [] → RepM y 0 F) ∧ RcM y RS
def ScJ (x y : St) : Prop := ∃ sc sp F E RS, ScP x y sc sp F E RS
/-- what is open -/
def OpP (x y : St) (op : Bool) (H : List SFd) (G : List Nat) (K : List ChT) (CK : List (List PgW)) (b dE : Nat) (Pl : List PV) : Prop := (fI x 97 0 = if op = true then 1 else 0) ∧ (fI y 0 82 = if op = true then 1 else 0) ∧ smN G ≤ 2000 ∧ (op = true → OpC x H (smN G) G K CK ∧ BeS x H G b dE CK ∧ OpM y H (smN G) G K CK ∧ RnM y H G K CK Pl ∧ OkO H G CK ∧ KtO H G K CK ∧ WdO H CK)
/-- the query -/
def QuP (x y : St) (op : Bool) (H : List SFd) (hq : Bool) (Q : Qy) (qo qs kp : Nat) : Prop := (qo = 106 ∧ qs = 117 ∨ qo = 117 ∧ qs = 106) ∧ fR x 0 10 = some qo ∧ fR x 0 11 = some qs ∧ (fI x qo 0 = if hq = true then 1 else 0) ∧ (fI y 0 120 = if hq = true then 1 else 0) ∧ kp < 3 ∧ (hq = true → op = true ∧ SqC H x qo Q ∧ (fI x qo 7 = if cll Q = true then 1 else 0) ∧ QyW H Q ∧ fI y 0 117 = nI kp ∧ KqM y kp Q)
/-- the answer -/
def AwP (x y : St) (op : Bool) (H : List SFd) (G : List Nat) (CK : List (List PgW)) (b : Nat) (Pl : List PV) (on : Bool) (P : Qy) (a c la : Nat) : Prop := (a = 128 ∧ c = 137 ∨ a = 137 ∧ c = 128) ∧ fR x 0 12 = some a ∧ fR x 0 13 = some c ∧ la < 3 ∧ (on = true → op = true ∧ QyW H P) ∧ AnR x a on H G CK b P ∧ AnM y on la H G CK Pl P
def OqJ (x y : St) : Prop := ∃ op H G K CK b dE Pl hq Q qo qs kp on P a c la, OpP x y op H G K CK b dE Pl ∧ QuP x y op H hq Q qo qs kp ∧ AwP x y op H G CK b Pl on P a c la
def FtJ (x y : St) : Prop := (∀ k, k < 3 → fA x 98 k = fA y 52 k) ∧ ∃ oc, oc ≤ 100 ∧ fI x 96 3 = nI oc ∧ fI y 0 83 = nI oc
def OuJ (x y : St) : Prop := ∃ O : List Nat, Snk x 147 O ∧ OutM y O ∧ O.length ≤ 100000
def BaC (κ : Nat → Nat) (x : St) : Prop := LC x ∧ SkS x ∧ Caps x κ
def BaM (y : St) : Prop := LM y ∧ fA y 33 0 = 0 ∧ fA y 34 0 = 0
def Inv (κ : Nat → Nat) (x y : St) : Prop := BaC κ x ∧ BaM y ∧ IoJ x y ∧ WrJ x ∧ ScJ x y ∧ OqJ x y ∧ FtJ x y ∧ OuJ x y
-- what each part reads, class
def IoC (x x' : St) : Prop := (∀ k, k ≤ 2 → fR x' 0 k = fR x 0 k) ∧ fR x' 45 0 = fR x 45 0 ∧ (∀ s, Tin s → fR x' s 0 = fR x s 0 ∧ ∀ k, k = 1 ∨ k = 2 ∨ k = 5 ∨ k = 6 → fI x' s k = fI x s k) ∧ ∀ s q, Tin s → fR x s 0 = some q → fA x' q = fA x q ∧ fN x' q = fN x q
def WrC (x x' : St) : Prop := (∀ k, k = 3 ∨ k = 4 → fR x' 45 k = fR x 45 k) ∧ fA x' 68 = fA x 68 ∧ ∀ o k, o = 49 ∨ o = 52 ∨ o = 55 ∨ o = 58 → k = 5 ∨ k = 6 → fI x' o k = fI x o k
def ScC' (x x' : St) : Prop := (∀ k, k = 4 ∨ k = 5 → fR x' 0 k = fR x 0 k) ∧ (∀ o k, o = 12 ∨ o = 24 ∨ o = 36 ∧ k ≤ 2 → fI x' o k = fI x o k) ∧ (∀ a, 13 ≤ a → a ≤ 44 → fA x' a = fA x a) ∧ fL x' 39 = fL x 39
def OqC (x x' : St) : Prop := (∀ k, 10 ≤ k → k ≤ 13 → fR x' 0 k = fR x 0 k) ∧ (∀ o k, o = 70 ∨ o = 96 ∨ o = 97 ∨ o = 106 ∨ o = 117 ∨ o = 128 ∨ o = 137 → fI x' o k = fI x o k) ∧ (∀ a, 71 ≤ a ∧ a ≤ 95 ∨ 107 ≤ a ∧ a ≤ 145 → fA x' a = fA x a) ∧ ∀ a, 71 ≤ a ∧ a ≤ 95 ∨ 107 ≤ a ∧ a ≤ 145 → fL x' a = fL x a
def FtC' (x x' : St) : Prop := fA x' 98 = fA x 98 ∧ fI x' 96 3 = fI x 96 3
def OuC (x x' : St) : Prop := fR x' 147 0 = fR x 147 0 ∧ (∀ k, k = 1 ∨ k = 2 ∨ k = 5 ∨ k = 6 → fI x' 147 k = fI x 147 k) ∧ ∀ q, fR x 147 0 = some q → fA x' q = fA x q ∧ fN x' q = fN x q
-- and of the model
def IoM (y y' : St) : Prop := (∀ k, k = 3 ∨ k = 4 ∨ k = 65 → fI y' 0 k = fI y 0 k) ∧ ∀ a, a = 1 ∨ a = 2 ∨ a = 41 → fA y' a = fA y a
def ScM' (y y' : St) : Prop := (∀ k, k = 14 ∨ k = 34 ∨ k = 35 ∨ k = 36 → fI y' 0 k = fI y 0 k) ∧ (∀ a i, 3 ≤ a → a ≤ 11 → i < s1lo a → fA y' a i = fA y a i) ∧ (∀ a, 18 ≤ a → a ≤ 24 → fA y' a = fA y a) ∧ fL y' 25 = fL y 25
def OqM (y y' : St) : Prop := LM y' ∧ (∀ k, 82 ≤ k ∧ k ≤ 94 ∧ k ≠ 83 ∧ k ≠ 88 ∨ k = 117 ∨ k = 119 ∨ k = 120 ∨ k = 121 ∨ k = 161 ∨ k = 163 ∨ k = 164 → fI y' 0 k = fI y 0 k) ∧ (∀ a i, 3 ≤ a → a ≤ 11 → s1lo a ≤ i → i < limS a → fA y' a i = fA y a i) ∧ (∀ a, a = 53 ∨ 55 ≤ a ∧ a ≤ 74 ∨ 79 ≤ a ∧ a ≤ 92 ∨ 104 ≤ a → fA y' a = fA y a) ∧ ∀ a, a = 54 ∨ a = 93 ∨ a = 114 → fL y' a = fL y a
def OpN (y y' : St) : Prop := LM y' ∧ (∀ k, 82 ≤ k ∧ k ≤ 94 ∧ k ≠ 83 ∧ k ≠ 88 → fI y' 0 k = fI y 0 k) ∧ (∀ a i, 3 ≤ a → a ≤ 11 → s1lo a ≤ i → i < limS a → fA y' a i = fA y a i) ∧ (∀ a, a = 53 ∨ 55 ≤ a ∧ a ≤ 74 → fA y' a = fA y a) ∧ fL y' 54 = fL y 54
theorem OqM.n {y y' : St} (h : OqM y y') : OpN y y' := ⟨h.1, fun k hk => h.2.1 k (Or.inl hk), h.2.2.1, fun a ha => h.2.2.2.1 a (by omega), h.2.2.2.2 54 (Or.inl rfl)⟩
def FtM' (y y' : St) : Prop := fA y' 52 = fA y 52 ∧ fI y' 0 83 = fI y 0 83
def OuM (y y' : St) : Prop := fI y' 0 113 = fI y 0 113 ∧ fA y' 75 = fA y 75
def BaM' (y y' : St) : Prop := (∀ a, fN y' a = fN y a) ∧ fA y' 33 0 = fA y 33 0 ∧ fA y' 34 0 = fA y 34 0
section
variable {x x' y y' : St} {κ : Nat → Nat}
theorem HoldC.k {s c : Nat} {T : Nat → Int32} (h : HoldC x s T c) (hR : fR x' s 0 = fR x s 0) (hI : ∀ k, k = 1 ∨ k = 2 → fI x' s k = fI x s k) (hA : ∀ q, fR x s 0 = some q → fA x' q = fA x q ∧ fN x' q = fN x q) : HoldC x' s T c := by
  obtain ⟨h1, h2, q, h3, h4, h5⟩ := h
  obtain ⟨a1, a2⟩ := hA q h3
  exact ⟨(hI 1 (by decide)).trans h1, (hI 2 (by decide)).trans h2, q, hR.trans h3, by rw [a2]; exact h4, by rw [a1]; exact h5⟩
theorem IoP.k {t i f w c n m : Nat} {U T : Nat → Int32} {B : Nat → Nat} (h : IoP x y t i f w c n m U T B) (hC : IoC x x') (hM : IoM y y') : IoP x' y' t i f w c n m U T B := by
  obtain ⟨⟨a1, a2, a3, a4⟩, b, ⟨c1, c2, c3, c4⟩, d, e1, e2, e3, g1, g2, g3, g4, g5, g6⟩ := h
  obtain ⟨p1, p2, p3, p4⟩ := hC
  obtain ⟨r1, r2⟩ := hM
  have hk : ∀ {s c T}, Tin s → HoldC x s T c → HoldC x' s T c := fun hs h => h.k (p3 _ hs).1 (fun k hk => (p3 _ hs).2 k (by omega)) (fun q hq => p4 _ q hs hq)
  refine ⟨⟨a1, a2, a3, a4⟩, b, ⟨(p1 0 (by decide)).trans c1, (p1 1 (by decide)).trans c2, (p1 2 (by decide)).trans c3, p2.trans c4⟩, fun s hs => ⟨((p3 s hs).2 5 (by decide)).trans (d s hs).1, ((p3 s hs).2 6 (by decide)).trans (d s hs).2⟩, hk a1 e1, hk a2 e2, hk a3 e3, g1, g2, ?_, ?_, (r1 65 (by decide)).trans g5, ?_⟩
  · obtain ⟨t1, t2, t3⟩ := g3
    exact ⟨(r1 3 (by decide)).trans t1, t2, by rw [r2 1 (by decide)]; exact t3⟩
  · obtain ⟨t1, t2, t3⟩ := g4
    exact ⟨(r1 4 (by decide)).trans t1, t2, by rw [r2 2 (by decide)]; exact t3⟩
  · rw [r2 41 (by decide)]
    exact g6
theorem IoJ.k (h : IoJ x y) (hC : IoC x x') (hM : IoM y y') : IoJ x' y' := by
  obtain ⟨t, i, f, w, c, n, m, U, T, B, h⟩ := h
  exact ⟨t, i, f, w, c, n, m, U, T, B, h.k hC hM⟩
theorem WrJ.k (h : WrJ x) (hC : WrC x x') : WrJ x' := by
  obtain ⟨t, b, h1, ⟨h2, h3, h4, h5, h6, h7, h8, h9, h10⟩, h11, h12⟩ := h
  obtain ⟨p1, p2, p3⟩ := hC
  have tb : (t = 55 ∨ t = 58) ∧ (b = 55 ∨ b = 58) := by unfold TB at h1; omega
  refine ⟨t, b, h1, ⟨(p1 3 (by decide)).trans h2, (p1 4 (by decide)).trans h3, ?_, (p3 t 5 (by omega) (by decide)).trans h5, (p3 t 6 (by omega) (by decide)).trans h6, (p3 b 5 (by omega) (by decide)).trans h7, (p3 b 6 (by omega) (by decide)).trans h8, (p3 52 5 (by decide) (by decide)).trans h9, (p3 52 6 (by decide) (by decide)).trans h10⟩, (p3 49 5 (by decide) (by decide)).trans h11, (p3 49 6 (by decide) (by decide)).trans h12⟩
  unfold Sz at *
  rw [p2]
  exact h4
theorem RsC.k {F : List SFd} {E : List SEn} {cnt : Nat} (h : RsC x F E cnt) (hI : ∀ k, k ≤ 2 → fI x' 36 k = fI x 36 k) (hA : ∀ a, 37 ≤ a → a ≤ 44 → fA x' a = fA x a) (hL : fL x' 39 = fL x 39) : RsC x' F E cnt := by
  obtain ⟨r1, r2, r3, r4, r5, r6, r7, r8⟩ := h
  refine ⟨(hI 0 (by decide)).trans r1, (hI 1 (by decide)).trans r2, (hI 2 (by decide)).trans r3, r4, r5, r6, fun i hi => ?_, ?_⟩
  · have := r7 i hi
    unfold EnC VlC at *
    rw [hA 40 (by decide) (by decide), hA 37 (by decide) (by decide), hA 38 (by decide) (by decide), hA 42 (by decide) (by decide), hL]
    exact this
  · unfold KpC at *
    rw [hA 41 (by decide) (by decide), hA 43 (by decide) (by decide), hA 44 (by decide) (by decide)]
    exact r8
theorem RepM.z {F : List SFd} (hw : WfS F) (h : RepM y 0 F) (e : ∀ a i, 3 ≤ a → a ≤ 11 → i < s1lo a → fA y' a i = fA y a i) : RepM y' 0 F := by
  have hF := hw.1
  have hC := hw.2.1
  obtain ⟨h1, h2, h3, h4⟩ := h
  refine ⟨(e 9 0 (by decide) (by decide) (by decide)).trans h1, (e 10 0 (by decide) (by decide) (by decide)).trans h2, fun f hf => ?_, fun f hf ht => ?_⟩
  · obtain ⟨a1, a2, a3, a4, a5, a6⟩ := h3 f hf
    have n16 := (hw.2.2.2.1 f hf).2.2.2.2
    have ee : ∀ a, 3 ≤ a → a ≤ 7 → fA y' a (128 * 0 + f) = fA y a (128 * 0 + f) := fun a l1 l2 => e a _ l1 (by omega) (by unfold s1lo; rw [if_neg (by omega), if_neg (by omega), if_neg (by omega)]; omega)
    refine ⟨(ee 3 (by decide) (by decide)).trans a1, (ee 4 (by decide) (by decide)).trans a2, (ee 5 (by decide) (by decide)).trans a3, (ee 7 (by decide) (by decide)).trans a4, fun i hi => ?_, (ee 6 (by decide) (by decide)).trans a6⟩
    exact (e 8 _ (by decide) (by decide) (by show _ < 2048; omega)).trans (a5 i hi)
  · have := ncol_lt hf ht
    exact (e 11 _ (by decide) (by decide) (by show _ < 64; omega)).trans (h4 f hf ht)
theorem RepM.o {F : List SFd} (hw : WfS F) (h : RepM y 1 F) (e : ∀ a i, 3 ≤ a → a ≤ 11 → s1lo a ≤ i → i < limS a → fA y' a i = fA y a i) : RepM y' 1 F := by
  have hF := hw.1
  have hC := hw.2.1
  obtain ⟨h1, h2, h3, h4⟩ := h
  refine ⟨(e 9 1 (by decide) (by decide) (by decide) (by decide)).trans h1, (e 10 1 (by decide) (by decide) (by decide) (by decide)).trans h2, fun f hf => ?_, fun f hf ht => ?_⟩
  · obtain ⟨a1, a2, a3, a4, a5, a6⟩ := h3 f hf
    have n16 := (hw.2.2.2.1 f hf).2.2.2.2
    have ee : ∀ a, 3 ≤ a → a ≤ 7 → fA y' a (128 * 1 + f) = fA y a (128 * 1 + f) := fun a l1 l2 => e a _ l1 (by omega) (by unfold s1lo; rw [if_neg (by omega), if_neg (by omega), if_neg (by omega)]; omega) (by unfold limS; rw [if_neg (by omega), if_neg (by omega), if_neg (by omega)]; omega)
    refine ⟨(ee 3 (by decide) (by decide)).trans a1, (ee 4 (by decide) (by decide)).trans a2, (ee 5 (by decide) (by decide)).trans a3, (ee 7 (by decide) (by decide)).trans a4, fun i hi => ?_, (ee 6 (by decide) (by decide)).trans a6⟩
    exact (e 8 _ (by decide) (by decide) (by show 2048 ≤ _; omega) (by show _ < 4096; omega)).trans (a5 i hi)
  · have := ncol_lt hf ht
    exact (e 11 _ (by decide) (by decide) (by show 64 ≤ _; omega) (by show _ < 128; omega)).trans (h4 f hf ht)
theorem ScP.k {sc sp : Nat} {F : List SFd} {E : List SEn} {RS : List (List SEn)} (h : ScP x y sc sp F E RS) (hC : ScC' x x') (hM : ScM' y y') : ScP x' y' sc sp F E RS := by
  obtain ⟨a1, a2, a3, a4, a5, a6, a7, a8, a9, a10, a11⟩ := h
  obtain ⟨p1, p2, p3, p4⟩ := hC
  obtain ⟨r1, r2, r3, r4⟩ := hM
  have e : ∀ k : Fin 13, k.val < 2 ∨ (13 ≤ stC sc k.val ∧ stC sc k.val ≤ 44) := by
    rcases a1 with ⟨rfl, -⟩ | ⟨rfl, -⟩ <;> decide
  refine ⟨a1, (p1 4 (by decide)).trans a2, (p1 5 (by decide)).trans a3, a4, (p2 sc 0 (by omega)).trans a5, fun hF => (a6 hF).cg2 (fun k hk => p2 sc k (by omega)) (fun k k1 k2 => ?_), a7.k (fun k hk => p2 36 k (by omega)) (fun a l1 l2 => p3 a (by omega) l2) p4, a8, (r1 14 (by decide)).trans a9, fun hF => (a10 hF).z a4 r2, a11.cg (fun k hk => r1 k (by omega)) r3 r4⟩
  rcases e ⟨k, by omega⟩ with q | q
  · exact absurd q (by show ¬ k < 2; omega)
  · exact p3 _ q.1 q.2
theorem ScJ.k (h : ScJ x y) (hC : ScC' x x') (hM : ScM' y y') : ScJ x' y' := by
  obtain ⟨sc, sp, F, E, RS, h⟩ := h
  exact ⟨sc, sp, F, E, RS, h.k hC hM⟩
theorem RnM.cg {H : List SFd} {G : List Nat} {K : List ChT} {CK : List (List PgW)} {Pl : List PV} (h : RnM y H G K CK Pl) (hw : WfS H) (hM : OpN y y') : RnM y' H G K CK Pl := by
  obtain ⟨hL, hI, hS, hA, hl⟩ := hM
  obtain ⟨⟨h1, h2, h3, h4, h5, h6, h7, h8, h9, h10⟩, k2, k3, k4, k5, k6⟩ := h
  have ra : ∀ a, 55 ≤ a → a ≤ 74 → fA y' a = fA y a := fun a l1 l2 => hA a (Or.inr ⟨l1, l2⟩)
  refine ⟨⟨hL, h2.o hw hS, ?_, h4, h5, h6, ?_, h8, ?_, ?_⟩, (hI 85 (by omega)).trans k2, k3, fun w hw' => ?_, k5, fun k hk => ?_⟩
  · rw [hA 53 (Or.inl rfl)]; exact h3
  · rw [ra 65 (by decide) (by decide), ra 61 (by decide) (by decide)]; exact h7
  · exact h9.cg (hI 93 (by omega)) (hI 94 (by omega)) hl (ra 55 (by decide) (by decide)) (ra 56 (by decide) (by decide)) (ra 57 (by decide) (by decide))
  · intro i hi
    have := h10 i hi
    unfold EnO at *
    rw [ra 58 (by decide) (by decide), ra 59 (by decide) (by decide), ra 60 (by decide) (by decide)]
    exact this
  · have := k4 w hw'
    unfold KtW at *
    rw [ra 61 (by decide) (by decide), ra 62 (by decide) (by decide), ra 63 (by decide) (by decide), ra 64 (by decide) (by decide)]
    exact this
  · have := (k6 k hk).cg (y := y') (Z := []) (fun r r1 r2 => by rw [ra r (by omega) (by omega)])
    rw [List.append_nil] at this
    exact this
theorem OpM.cg {H : List SFd} {G : List Nat} {K : List ChT} {CK : List (List PgW)} {rows : Nat} (h : OpM y H rows G K CK) (hM : OpN y y') : OpM y' H rows G K CK := by
  obtain ⟨hL, hI, hS, hA, hl⟩ := hM
  obtain ⟨h1, h2, h3, h4, h5, h6, h7, h8, h9, h10, h11, h12, h13, Q, q1, q2, q3, q4, q5, q6, q7⟩ := h
  have ra : ∀ a, 55 ≤ a → a ≤ 74 → fA y' a = fA y a := fun a l1 l2 => hA a (Or.inr ⟨l1, l2⟩)
  refine ⟨h1.o h2 hS, h2, h3, h4, (hI 84 (by omega)).trans h5, h6, (hI 85 (by omega)).trans h7, h8, ?_, h10, h11, h12, h13, Q, fun w hw => ?_, q2.cg (fun k hk => hI k (by omega)) (fun r r1 r2 r3 => ra r (by omega) (by omega)) hl, ?_, q4, q5, q6, q7⟩
  · rw [hA 53 (Or.inl rfl)]; exact h9
  · have := q1 w hw
    unfold KtW at *
    rw [ra 61 (by decide) (by decide), ra 62 (by decide) (by decide), ra 63 (by decide) (by decide), ra 64 (by decide) (by decide)]
    exact this
  · rw [ra 65 (by decide) (by decide)]; exact q3
theorem OpP.k {op : Bool} {H : List SFd} {G : List Nat} {K : List ChT} {CK : List (List PgW)} {b dE : Nat} {Pl : List PV} (h : OpP x y op H G K CK b dE Pl) (p2 : ∀ o k, o = 70 ∨ o = 96 ∨ o = 97 → fI x' o k = fI x o k) (hA : ∀ a, 71 ≤ a → a ≤ 95 → fA x' a = fA x a) (hl : ∀ a, 71 ≤ a → a ≤ 95 → fL x' a = fL x a) (hM : OpN y y') : OpP x' y' op H G K CK b dE Pl := by
  obtain ⟨h1, h2, h3, h4⟩ := h
  refine ⟨(p2 97 0 (by omega)).trans h1, (hM.2.1 82 (by omega)).trans h2, h3, fun ho => ?_⟩
  obtain ⟨k1, k2, k3, k4, k5, k6, k7⟩ := h4 ho
  exact ⟨k1.cg (fun o k ho => p2 o k (by omega)) hA hl, k2.cg (fun o k ho => p2 o k (by omega)) hA hl, k3.cg hM, k4.cg k3.2.1 hM, k5, k6, k7⟩
theorem QuP.k {op hq : Bool} {H : List SFd} {Q : Qy} {qo qs kp : Nat} (h : QuP x y op H hq Q qo qs kp) (hC : OqC x x') (hM : OqM y y') : QuP x' y' op H hq Q qo qs kp := by
  obtain ⟨h1, h2, h3, h4, h5, h6, h7⟩ := h
  obtain ⟨p1, p2, p3, p4⟩ := hC
  refine ⟨h1, (p1 10 (by decide) (by decide)).trans h2, (p1 11 (by decide) (by decide)).trans h3, (p2 qo 0 (by omega)).trans h4, (hM.2.1 120 (by omega)).trans h5, h6, fun hh => ?_⟩
  obtain ⟨k1, k2, k3, k4, k5, k6⟩ := h7 hh
  refine ⟨k1, k2.cg (fun k => p2 qo k (by omega)) (fun a l1 l2 => p3 a (by omega)) (p4 _ (by omega)), (p2 qo 7 (by omega)).trans k3, k4, (hM.2.1 117 (by omega)).trans k5, ⟨SqM.cg k6.1 (fun a l1 l2 => hM.2.2.2.1 a (by omega)) (hM.2.2.2.2 93 (by omega)), fun i hi => ?_, k6.2.2⟩⟩
  rw [hM.2.2.2.1 92 (by omega)]
  exact k6.2.1 i hi
theorem AnR.k {a b : Nat} {on : Bool} {H : List SFd} {G : List Nat} {CK : List (List PgW)} {P : Qy} (h : AnR x a on H G CK b P) (hI : ∀ k, fI x' a k = fI x a k) (hA : ∀ r, a + 1 ≤ r → r ≤ a + 3 → fA x' r = fA x r) (hl : fL x' (a + 4) = fL x (a + 4)) (h82 : fA x' 82 = fA x 82) : AnR x' a on H G CK b P := by
  refine ⟨(hI 0).trans h.1, fun ho => ?_⟩
  obtain ⟨k1, k2, k3, k4, k5, k6⟩ := h.2 ho
  refine ⟨(hI 6).trans k1, (hI 7).trans k2, (hI 2).trans k3, (hI 3).trans k4, fun c => ?_, fun c => ?_⟩
  · obtain ⟨⟨u1, u2⟩, u3⟩ := k5 c
    refine ⟨⟨(hI 1).trans u1, by rw [hA (a + 2) (by omega) (by omega)]; exact u2⟩, ?_⟩
    unfold WnR at *
    rw [hA (a + 1) (by omega) (by omega)]
    exact u3
  · obtain ⟨A, u1, u2, u3, u4⟩ := k6 c
    refine ⟨A, u1, (hI 1).trans u2, u3, fun g hg => ?_⟩
    obtain ⟨v1, v2⟩ := u4 g hg
    exact ⟨by rw [hA (a + 2) (by omega) (by omega)]; exact v1, fun i hi => (v2 i hi).cg (by rw [hA (a + 3) (by omega) (by omega)]) (by rw [hl]) h82⟩
theorem AwP.k {op on : Bool} {H : List SFd} {G : List Nat} {CK : List (List PgW)} {b : Nat} {Pl : List PV} {P : Qy} {a c la : Nat} (h : AwP x y op H G CK b Pl on P a c la) (hC : OqC x x') (hM : OqM y y') : AwP x' y' op H G CK b Pl on P a c la := by
  obtain ⟨h1, h2, h3, h4, h5, h6, h7⟩ := h
  obtain ⟨p1, p2, p3, p4⟩ := hC
  exact ⟨h1, (p1 12 (by decide) (by decide)).trans h2, (p1 13 (by decide) (by decide)).trans h3, h4, h5, h6.k (fun k => p2 a k (by omega)) (fun r l1 l2 => p3 r (by omega)) (p4 _ (by omega)) (p3 82 (by omega)), h7.cg (fun k hk => hM.2.1 k (by omega)) (fun r hr => hM.2.2.2.1 r (by omega)) (fun r hr => hM.2.2.2.2 r (by omega))⟩
theorem OqJ.k (h : OqJ x y) (hC : OqC x x') (hM : OqM y y') : OqJ x' y' := by
  obtain ⟨op, H, G, K, CK, b, dE, Pl, hq, Q, qo, qs, kp, on, P, a, c, la, h1, h2, h3⟩ := h
  exact ⟨op, H, G, K, CK, b, dE, Pl, hq, Q, qo, qs, kp, on, P, a, c, la, h1.k (fun o k ho => hC.2.1 o k (by omega)) (fun a l1 l2 => hC.2.2.1 a (Or.inl ⟨l1, l2⟩)) (fun a l1 l2 => hC.2.2.2 a (Or.inl ⟨l1, l2⟩)) hM.n, h2.k hC hM, h3.k hC hM⟩
theorem FtJ.k (h : FtJ x y) (hC : FtC' x x') (hM : FtM' y y') : FtJ x' y' := by
  obtain ⟨h1, oc, h2, h3, h4⟩ := h
  exact ⟨fun k hk => by rw [hC.1, hM.1]; exact h1 k hk, oc, h2, hC.2.trans h3, hM.2.trans h4⟩
theorem OuJ.k (h : OuJ x y) (hC : OuC x x') (hM : OuM y y') : OuJ x' y' := by
  obtain ⟨O, h1, h2, h3⟩ := h
  obtain ⟨p1, p2, p3⟩ := hC
  obtain ⟨a1, a2, a3⟩ := h1
  refine ⟨O, ⟨(p2 5 (by decide)).trans a1, (p2 6 (by decide)).trans a2, ?_⟩, ⟨hM.1.trans h2.1, h2.2.1, by rw [hM.2]; exact h2.2.2⟩, h3⟩
  rcases a3 with ⟨b1, b2⟩ | ⟨b1, b2, c, q, b3, b4, b5⟩
  · exact Or.inl ⟨b1, b2.cg (p2 1 (by decide)) (p2 2 (by decide)) p1 p3⟩
  · exact Or.inr ⟨b1, (p2 2 (by decide)).trans b2, c, q, (p2 1 (by decide)).trans b3, p1.trans b4, by rw [(p3 q b4).2]; exact b5⟩
theorem BaM.k (h : BaM y) (hM : BaM' y y') : BaM y' := ⟨fun a => (hM.1 a).trans (h.1 a), hM.2.1.trans h.2.1, hM.2.2.trans h.2.2⟩
theorem BaC.fg {I J R : Nat → Nat → Prop} {A L : Nat → Prop} (h : BaC κ x) (f : Fg I J R A L x x') (hI : ∀ s, SnkId s → ¬ I s 3) (hR : ∀ s, SnkId s → ¬ R s 0) (hA : ∀ q, skRow q → ¬ A q) : BaC κ x' := ⟨fun r hr => by rw [f.len]; exact h.1 r hr, h.2.1.cgX (fun s hs => f.ii (hI s hs)) (fun s hs => f_r f (hR s hs)) (fun q hq => ⟨f.aa (hA q hq), f.len q⟩), h.2.2.cgX h.2.1 (fun s hs => f_r f (hR s hs)) (fun q hq => ⟨f.aa (hA q hq), f.len q⟩)⟩
/-- the row of a sink -/
theorem BaC.row (h : BaC κ x) {s q : Nat} (hs : SnkId s) (hq : fR x s 0 = some q) : skRow q ∧ fN x q ≤ roomOf s ∧ fN x q < 2 ^ 31 := by
  obtain ⟨-, q', a1, a2, a3, a4, -⟩ := h.2.1 s hs
  rw [hq] at a1
  injection a1 with a1
  subst a1
  have : roomOf s ≤ 100000 := by unfold roomOf; split <;> (try split) <;> omega
  exact ⟨a2, a4, by omega⟩
end
