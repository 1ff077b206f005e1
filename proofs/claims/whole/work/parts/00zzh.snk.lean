/-! sinks: bytes come behind others; rows that grow -/
def lv (x : St) (r : Nat) : Prop := r < 152 ∨ (∃ t, SnkId t ∧ fR x t 0 = some r) ∨ fR x 10 0 = some r
/-- nothing but what is named has changed; the sinks of S may have new rows -/
def FX (I J R : Nat → Nat → Prop) (A L S : Nat → Prop) (x y : St) : Prop := (∀ o k, ¬ I o k → y.1 o k = x.1 o k) ∧ (∀ o k, ¬ J o k → y.2.1 o k = x.2.1 o k) ∧ (∀ o k, ¬ R o k → ¬ (S o ∧ k = 0) → y.2.2.1 o k = x.2.2.1 o k) ∧ (∀ r, lv x r → ¬ A r → (∀ s, S s → fR x s 0 ≠ some r) → y.2.2.2.1 r = x.2.2.2.1 r ∧ y.2.2.2.2.2 r = x.2.2.2.2.2 r) ∧ (∀ a, ¬ L a → y.2.2.2.2.1 a = x.2.2.2.2.1 a) ∧ (∀ r, r < 152 → y.2.2.2.2.2 r = x.2.2.2.2.2 r) ∧ (∀ s r, S s → fR y s 0 = some r → (∃ s', S s' ∧ fR x s' 0 = some r) ∨ ¬ lv x r)
theorem FX.refl {I J R : Nat → Nat → Prop} {A L S : Nat → Prop} (x : St) : FX I J R A L S x x := ⟨fun _ _ _ => rfl, fun _ _ _ => rfl, fun _ _ _ _ => rfl, fun _ _ _ _ => ⟨rfl, rfl⟩, fun _ _ => rfl, fun _ _ => rfl, fun s r a b => Or.inl ⟨s, a, b⟩⟩
theorem FX.trans {I J R : Nat → Nat → Prop} {A L S : Nat → Prop} {x y z : St} (hR : ∀ t, SnkId t → ¬ R t 0) (h10 : ¬ R 10 0) (hS : ∀ s, S s → SnkId s) (h : FX I J R A L S x y) (k : FX I J R A L S y z) : FX I J R A L S x z := by
  obtain ⟨h1, h2, h3, h4, h5, h6, h7⟩ := h
  obtain ⟨k1, k2, k3, k4, k5, k6, k7⟩ := k
  have n10 : ∀ s, S s → s ≠ 10 := fun s hs e => by rw [e] at hs; have := hS 10 hs; unfold SnkId at this; omega
  have up : ∀ r, lv x r → (∀ s, S s → fR x s 0 ≠ some r) → lv y r ∧ ∀ s, S s → fR y s 0 ≠ some r := by
    intro r a b
    refine ⟨?_, fun s hs e => ?_⟩
    · rcases a with a | ⟨t, t1, t2⟩ | a
      · exact Or.inl a
      · by_cases c : S t
        · exact absurd t2 (b t c)
        · exact Or.inr (Or.inl ⟨t, t1, (h3 t 0 (hR t t1) (fun w => c w.1)).trans t2⟩)
      · exact Or.inr (Or.inr ((h3 10 0 h10 (fun w => n10 10 w.1 rfl)).trans a))
    · rcases h7 s r hs e with ⟨s', a1, a2⟩ | w
      · exact b s' a1 a2
      · exact w a
  refine ⟨fun o i c => (k1 o i c).trans (h1 o i c), fun o i c => (k2 o i c).trans (h2 o i c), fun o i c d => (k3 o i c d).trans (h3 o i c d), fun r a b c => ?_, fun a c => (k5 a c).trans (h5 a c), fun r a => (k6 r a).trans (h6 r a), fun s r a b => ?_⟩
  · have u := up r a c
    have e1 := h4 r a b c
    have e2 := k4 r u.1 b u.2
    exact ⟨e2.1.trans e1.1, e2.2.trans e1.2⟩
  · by_cases c : ∃ s', S s' ∧ fR x s' 0 = some r
    · exact Or.inl c
    · refine Or.inr (fun l => ?_)
      have u := up r l (fun s' a1 a2 => c ⟨s', a1, a2⟩)
      rcases k7 s r a b with ⟨s', a1, a2⟩ | w
      · exact u.2 s' a1 a2
      · exact w u.1
theorem FX.mono {I J R I' J' R' : Nat → Nat → Prop} {A L S A' L' S' : Nat → Prop} {x y : St} (h : FX I J R A L S x y) (hS : ∀ s, S' s → SnkId s) (hR : ∀ t, SnkId t → ¬ R t 0) (h1 : ∀ o k, I o k → I' o k) (h2 : ∀ o k, J o k → J' o k) (h3 : ∀ o k, R o k → R' o k) (h4 : ∀ a, A a → A' a) (h5 : ∀ a, L a → L' a) (h6 : ∀ a, S a → S' a) : FX I' J' R' A' L' S' x y := by
  obtain ⟨g1, g2, g3, g4, g5, g6, g7⟩ := h
  refine ⟨fun o i c => g1 o i (fun z => c (h1 o i z)), fun o i c => g2 o i (fun z => c (h2 o i z)), fun o i c d => g3 o i (fun z => c (h3 o i z)) (fun z => d ⟨h6 o z.1, z.2⟩), fun r a b c => g4 r a (fun z => b (h4 r z)) (fun s hs => c s (h6 s hs)), fun a c => g5 a (fun z => c (h5 a z)), g6, fun s r a b => ?_⟩
  by_cases c : S s
  · rcases g7 s r c b with ⟨s', a1, a2⟩ | w
    · exact Or.inl ⟨s', h6 s' a1, a2⟩
    · exact Or.inr w
  · exact Or.inl ⟨s, a, (g3 s 0 (hR s (hS s a)) (fun z => c z.1)).symm.trans b⟩
theorem lv.live {x : St} {r : Nat} (h : lv x r) : live x r := by
  rcases h with h | ⟨t, h1, h2⟩ | h
  · exact Or.inl h
  · exact live_sk h1 h2
  · exact Or.inr ⟨10, 0, by decide, by decide +kernel, h⟩
/-- one sink -/
abbrev FK (s : Nat) (x y : St) : Prop := FX (fun o k => o = s ∧ (k = 1 ∨ k = 2 ∨ k = 5 ∨ k = 6)) no2 no2 no1 no1 (fun o => o = s) x y
theorem FrK.x {s : Nat} {x y : St} (h : FrK s x y) : FK s x y := by
  obtain ⟨h1, h2, h3, h4, h5, h6, h7⟩ := h
  refine ⟨fun o k c => h1 o k (fun z => c ⟨z.1, z.2.elim Or.inl (fun w => Or.inr (Or.inl w))⟩), fun o k _ => by rw [h2], fun o k _ c => h3 o k c, fun r a _ c => h4 r a.live (c s rfl), fun a _ => by rw [h5], h6, fun t r a b => ?_⟩
  subst a
  rcases h7 r b with z | z
  · exact Or.inl ⟨t, rfl, z⟩
  · exact Or.inr (fun w => z w.live)
theorem FK.trans {s : Nat} {x y z : St} (hs : SnkId s) (h : FK s x y) (k : FK s y z) : FK s x z := FX.trans (fun _ _ => id) id (fun t e => by rw [e]; exact hs) h k
/-! capacities -/
def Caps (x : St) (κ : Nat → Nat) : Prop := ∀ s, SnkId s → ∃ q, fR x s 0 = some q ∧ fN x q = κ s
def Kle (κ κ' : Nat → Nat) : Prop := ∀ s, SnkId s → κ s ≤ κ' s ∧ κ' s ≤ roomOf s
def kq (κ : Nat → Nat) (s : Nat) : Nat := kpot (κ s) (roomOf s)
def nq (κ : Nat → Nat) (s : Nat) : Nat := npot (κ s) (roomOf s)
def KP (κ : Nat → Nat) : Nat := kq κ 1 + kq κ 4 + kq κ 7 + kq κ 46 + kq κ 49 + kq κ 52 + kq κ 55 + kq κ 58 + kq κ 147
def NP (κ : Nat → Nat) : Nat := nq κ 1 + nq κ 4 + nq κ 7 + nq κ 46 + nq κ 49 + nq κ 52 + nq κ 55 + nq κ 58 + nq κ 147
theorem kq_le {κ κ' : Nat → Nat} (h : Kle κ κ') {s : Nat} (hs : SnkId s) : kq κ' s ≤ kq κ s ∧ nq κ' s ≤ nq κ s := by
  have := h s hs
  unfold kq nq kpot npot
  constructor
  · omega
  · split <;> split <;> omega
theorem KP_le {κ κ' : Nat → Nat} (h : Kle κ κ') : KP κ' ≤ KP κ ∧ NP κ' ≤ NP κ := by
  have a := fun s hs => kq_le (s := s) h hs
  have a1 := a 1 (by unfold SnkId; omega)
  have a2 := a 4 (by unfold SnkId; omega)
  have a3 := a 7 (by unfold SnkId; omega)
  have a4 := a 46 (by unfold SnkId; omega)
  have a5 := a 49 (by unfold SnkId; omega)
  have a6 := a 52 (by unfold SnkId; omega)
  have a7 := a 55 (by unfold SnkId; omega)
  have a8 := a 58 (by unfold SnkId; omega)
  have a9 := a 147 (by unfold SnkId; omega)
  unfold KP NP
  omega
theorem Kle.refl {κ : Nat → Nat} (h : ∀ s, SnkId s → κ s ≤ roomOf s) : Kle κ κ := fun s hs => ⟨Nat.le_refl _, h s hs⟩
theorem Kle.trans {κ κ1 κ2 : Nat → Nat} (h : Kle κ κ1) (k : Kle κ1 κ2) : Kle κ κ2 := fun s hs => ⟨Nat.le_trans (h s hs).1 (k s hs).1, (k s hs).2⟩
/-- the budget of a call, and of what comes behind it -/
theorem bseq {κ κ1 κ2 : Nat → Nat} {kb nb : Nat} {K : Nat → Nat → Nat → Nat → Prop} (m1 : Kle κ κ1) (m2 : Kle κ1 κ2) (hk : KP κ ≤ kb + KP κ2) (hn : NP κ ≤ nb + NP κ2) (h : ∀ k1 n1 k2 n2, KP κ ≤ k1 + KP κ1 → NP κ ≤ n1 + NP κ1 → KP κ1 ≤ k2 + KP κ2 → NP κ1 ≤ n2 + NP κ2 → K k1 n1 k2 n2) : ∃ k1 n1 k2 n2 : Nat, k1 + k2 = kb ∧ n1 + n2 = nb ∧ K k1 n1 k2 n2 := by
  have a := KP_le m1
  have b := KP_le m2
  exact ⟨KP κ - KP κ1, NP κ - NP κ1, kb - (KP κ - KP κ1), nb - (NP κ - NP κ1), by omega, by omega, h _ _ _ _ (by omega) (by omega) (by omega) (by omega)⟩
def kup (κ : Nat → Nat) (s N : Nat) : Nat → Nat := fun t => if t = s then N else κ t
theorem kup_at {κ : Nat → Nat} {s N : Nat} : kup κ s N s = N := by unfold kup; rw [if_pos rfl]
theorem kup_ne {κ : Nat → Nat} {s t N : Nat} (h : t ≠ s) : kup κ s N t = κ t := by unfold kup; rw [if_neg h]
theorem kup_P {κ : Nat → Nat} {s N : Nat} (hs : SnkId s) : KP (kup κ s N) + kq κ s = KP κ + kpot N (roomOf s) ∧ NP (kup κ s N) + nq κ s = NP κ + npot N (roomOf s) := by
  have e : ∀ t, kq (kup κ s N) t = if t = s then kpot N (roomOf s) else kq κ t := fun t => by
    unfold kq kup
    by_cases c : t = s
    · rw [if_pos c, if_pos c, c]
    · rw [if_neg c, if_neg c]
  have e2 : ∀ t, nq (kup κ s N) t = if t = s then npot N (roomOf s) else nq κ t := fun t => by
    unfold nq kup
    by_cases c : t = s
    · rw [if_pos c, if_pos c, c]
    · rw [if_neg c, if_neg c]
  unfold KP NP
  simp only [e, e2]
  rcases hs with rfl | rfl | rfl | rfl | rfl | rfl | rfl | rfl | rfl <;> simp <;> omega
theorem kup_le {κ : Nat → Nat} {s N : Nat} (h : ∀ t, SnkId t → κ t ≤ roomOf t) (h1 : κ s ≤ N) (h2 : N ≤ roomOf s) : Kle κ (kup κ s N) := by
  intro t ht
  by_cases c : t = s
  · subst c; rw [kup_at]; exact ⟨h1, h2⟩
  · rw [kup_ne c]; exact ⟨Nat.le_refl _, h t ht⟩
theorem Caps.room {x : St} {κ : Nat → Nat} (h : Caps x κ) (hK : SkS x) : ∀ s, SnkId s → κ s ≤ roomOf s := by
  intro s hs
  obtain ⟨q, q1, q2⟩ := h s hs
  obtain ⟨-, q', b1, -, -, b4, -⟩ := hK s hs
  rw [q1] at b1
  rw [← Option.some.inj b1] at b4
  omega
theorem SkS.ne {x : St} (hK : SkS x) {s t q : Nat} (hs : SnkId s) (ht : SnkId t) (hne : t ≠ s) (hq : fR x s 0 = some q) : fR x t 0 ≠ some q := by
  intro z
  obtain ⟨-, q', b1, -, -, -, -, b7⟩ := hK s hs
  rw [hq] at b1
  rw [← Option.some.inj b1] at b7
  exact hne (b7 t ht z)
theorem Caps.k {x y : St} {κ : Nat → Nat} {s q N : Nat} (h : Caps x κ) (hK : SkS x) (hs : SnkId s) (f : FrK s x y) (h1 : fR y s 0 = some q) (h2 : fN y q = N) : Caps y (kup κ s N) := by
  intro t ht
  by_cases c : t = s
  · subst c; rw [kup_at]; exact ⟨q, h1, h2⟩
  · rw [kup_ne c]
    obtain ⟨p, p1, p2⟩ := h t ht
    refine ⟨p, (f.2.2.1 t 0 (fun z => c z.1)).trans p1, ?_⟩
    rw [show fN y p = fN x p from (f.2.2.2.1 p (live_sk ht p1) (hK.ne ht hs (fun z => c z.symm) p1)).2]
    exact p2
/-! what a sink holds -/
def bT (B : List Nat) : Nat → Int32 := fun i => nI (B.getD i 0)
def HL (x : St) (s : Nat) (B : List Nat) : Prop := (∀ b, b ∈ B → b < 256) ∧ HoldC x s (bT B) B.length
/-- the bytes B, or too many -/
def Snk (x : St) (s : Nat) (B : List Nat) : Prop := fI x s 5 = 0 ∧ fI x s 6 = 0 ∧ ((B.length ≤ roomOf s ∧ HL x s B) ∨ (roomOf s < B.length ∧ fI x s 2 = 1 ∧ ∃ c q, fI x s 1 = nI c ∧ fR x s 0 = some q ∧ c ≤ fN x q))
theorem getD_mem {B : List Nat} {i : Nat} (h : i < B.length) : B.getD i 0 ∈ B := by
  rw [List.getD_eq_getElem?_getD, List.getElem?_eq_getElem h]
  exact List.getElem_mem h
theorem bT_app {B C : List Nat} {i : Nat} : bT (B ++ C) i = if i < B.length then bT B i else bT C (i - B.length) := by
  unfold bT
  by_cases c : i < B.length
  · rw [if_pos c, List.getD_eq_getElem?_getD, List.getElem?_append_left c, ← List.getD_eq_getElem?_getD]
  · rw [if_neg c, List.getD_eq_getElem?_getD, List.getElem?_append_right (by omega), ← List.getD_eq_getElem?_getD]
theorem HL.cg {x y : St} {s : Nat} {B : List Nat} (h : HL x s B) (h1 : fI y s 1 = fI x s 1) (h2 : fI y s 2 = fI x s 2) (h3 : fR y s 0 = fR x s 0) (h4 : ∀ q, fR x s 0 = some q → fA y q = fA x q ∧ fN y q = fN x q) : HL y s B := by
  obtain ⟨g0, g1, g2, q, g3, g4, g5⟩ := h
  have e := h4 q g3
  exact ⟨g0, h1.trans g1, h2.trans g2, q, h3.trans g3, by rw [e.2]; exact g4, fun i hi => by rw [e.1]; exact g5 i hi⟩
/-- another sink isn't touched -/
theorem Snk.fr {I J R : Nat → Nat → Prop} {A L S : Nat → Prop} {x y : St} {t : Nat} {B : List Nat} (hK : SkS x) (h : Snk x t B) (ht : SnkId t) (f : FX I J R A L S x y) (hI : ∀ k, k = 1 ∨ k = 2 ∨ k = 5 ∨ k = 6 → ¬ I t k) (hR : ¬ R t 0) (hS : ¬ S t) (hA : ∀ q, skRow q → ¬ A q) (hS2 : ∀ s, S s → SnkId s) : Snk y t B := by
  obtain ⟨-, q, b1, b2, -, -, -, b7⟩ := hK t ht
  have e3 : fR y t 0 = fR x t 0 := f.2.2.1 t 0 hR (fun z => hS z.1)
  have er := f.2.2.2.1 q (Or.inr (Or.inl ⟨t, ht, b1⟩)) (hA q b2) (fun s hs z => hS (by have := b7 s (hS2 s hs) z; rw [← this]; exact hs))
  refine ⟨(f.1 t 5 (hI 5 (by decide))).trans h.1, (f.1 t 6 (hI 6 (by decide))).trans h.2.1, ?_⟩
  rcases h.2.2 with ⟨g1, g2⟩ | ⟨g1, g2, c, q', g3, g4, g5⟩
  · refine Or.inl ⟨g1, g2.cg (f.1 t 1 (hI 1 (by decide))) (f.1 t 2 (hI 2 (by decide))) e3 (fun p hp => ?_)⟩
    rw [b1] at hp
    rw [← Option.some.inj hp]
    exact er
  · rw [b1] at g4
    have g4 := Option.some.inj g4
    subst g4
    exact Or.inr ⟨g1, (f.1 t 2 (hI 2 (by decide))).trans g2, c, q, (f.1 t 1 (hI 1 (by decide))).trans g3, e3.trans b1, by show c ≤ y.2.2.2.2.2 q; rw [er.2]; exact g5⟩
