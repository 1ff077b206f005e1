/-! conditions are well formed -/
def colF (F : List SFd) (f : Nat) : Prop := f < F.length ∧ fTy F f ≠ 4 ∧ rF F f = 0
def lt0 : QLt := (0, 0, [])
/-- a step that can stand, beside literals -/
def stW (F : List SFd) (L : List QLt) (s : QSt) : Prop :=
  (∃ f, colF F f ∧ (s = (0, nI f, -1, -1, 0) ∨ s = (1, nI f, -1, -1, 0))) ∨
  (∃ f a m, colF F f ∧ 0 < m ∧ a + m ≤ L.length ∧ (∀ i, a ≤ i → i < a + m → litC (fTy F f) (L.getD i lt0)) ∧ s = (2, nI f, -1, nI a, nI m)) ∨
  (∃ f op a, colF F f ∧ op ≤ 5 ∧ a < L.length ∧ litC (fTy F f) (L.getD a lt0) ∧ s = (3, nI f, nI op, nI a, 1)) ∨
  (∃ f op g, colF F f ∧ op ≤ 5 ∧ colF F g ∧ (fTy F f = fTy F g ∨ whl (fTy F f) ∧ whl (fTy F g)) ∧ s = (4, nI f, nI op, nI g, 0)) ∨
  s = (5, -1, -1, -1, 0) ∨ s = (6, -1, -1, -1, 0) ∨ s = (7, -1, -1, -1, 0)
theorem gD_left {α : Type} {L M : List α} {d : α} {i : Nat} (h : i < L.length) : (L ++ M).getD i d = L.getD i d := by
  rw [List.getD_eq_getElem?_getD, List.getD_eq_getElem?_getD, List.getElem?_append_left h]
theorem gD_right {α : Type} {L M : List α} {d : α} {i : Nat} (h : L.length ≤ i) : (L ++ M).getD i d = M.getD (i - L.length) d := by
  rw [List.getD_eq_getElem?_getD, List.getD_eq_getElem?_getD, List.getElem?_append_right h]
theorem stW.mono {F : List SFd} {L M : List QLt} {s : QSt} (h : stW F L s) : stW F (L ++ M) s := by
  rcases h with h | ⟨f, a, m, h1, h2, h3, h4, h5⟩ | ⟨f, op, a, h1, h2, h3, h4, h5⟩ | h
  · exact Or.inl h
  · refine Or.inr (Or.inl ⟨f, a, m, h1, h2, by rw [List.length_append]; omega, fun i i1 i2 => ?_, h5⟩)
    rw [gD_left (by omega)]
    exact h4 i i1 i2
  · refine Or.inr (Or.inr (Or.inl ⟨f, op, a, h1, h2, by rw [List.length_append]; omega, ?_, h5⟩))
    rw [gD_left h3]
    exact h4
  · exact Or.inr (Or.inr (Or.inr h))
/-- how many truths lie on the pile behind steps -/
def hgt : List QSt → Nat → Option Nat
  | [], h => some h
  | s :: R, h => if s.1 = 5 then (if h = 0 then none else hgt R h) else if s.1 = 6 ∨ s.1 = 7 then (if h < 2 then none else hgt R (h - 1)) else hgt R (h + 1)
/-- steps that make one truth of a + what lies there -/
def exE (a : Nat) (E : List QSt) : Prop := ∀ R h, hgt (E ++ R) (h + a) = hgt R (h + 1)
theorem exE_one {s : QSt} (h5 : s.1 ≠ 5) (h6 : s.1 ≠ 6) (h7 : s.1 ≠ 7) : exE 0 [s] := by
  intro R h
  show (if s.1 = 5 then _ else _) = _
  rw [if_neg h5, if_neg (fun z => z.elim h6 h7)]
  rfl
theorem exE_not {a : Nat} {E : List QSt} (h : exE a E) : exE a (E ++ [(5, -1, -1, -1, 0)]) := by
  intro R k
  rw [List.append_assoc, h]
  show (if (5 : Int32) = 5 then (if k + 1 = 0 then none else hgt R (k + 1)) else _) = _
  rw [if_pos rfl, if_neg (by omega)]
theorem exE_bin {a : Nat} {E : List QSt} {w : Int32} (hw : w = 6 ∨ w = 7) (h : exE a E) : exE (a + 1) (E ++ [(w, -1, -1, -1, 0)]) := by
  intro R k
  rw [List.append_assoc, show k + (a + 1) = (k + 1) + a by omega, h]
  show (if w = 5 then _ else if w = 6 ∨ w = 7 then (if k + 1 + 1 < 2 then none else hgt R (k + 1 + 1 - 1)) else _) = _
  rw [if_neg (by rcases hw with e | e <;> rw [e] <;> decide), if_pos hw, if_neg (by omega)]
  rfl
theorem exE_app {a c : Nat} {E G : List QSt} (h : exE a E) (g : exE (1 + c) G) : exE (a + c) (E ++ G) := by
  intro R k
  rw [List.append_assoc, show k + (a + c) = (k + c) + a by omega, h, show k + c + 1 = k + (1 + c) by omega, g]
section
variable {T : Nat → Int32} {n : Nat} {F : List SFd} {Q : Qy}
/-- what reading adds -/
def ExQ (n : Nat) (F : List SFd) (a : Nat) (Q : Qy) (k : Nat) (r : QR) : Prop := r.1 = -1 → ∃ k' E L, r = (-1, k', (Q.1, Q.2.1, Q.2.2.1 ++ E, Q.2.2.2 ++ L)) ∧ k < k' ∧ k' ≤ n ∧ (∀ s, s ∈ E → stW F (Q.2.2.2 ++ L) s) ∧ exE a E
theorem ExQ.one {q k k' : Nat} {s : QSt} {L : List QLt} (hq : q < 2 ^ 31) (hk : k < k') (hn : k' ≤ n) (hs : stW F (Q.2.2.2 ++ L) s) (h5 : s.1 ≠ 5) (h6 : s.1 ≠ 6) (h7 : s.1 ≠ 7) : ExQ n F 0 Q k (qAdd q s (-1, k', (Q.1, Q.2.1, Q.2.2.1, Q.2.2.2 ++ L))) := by
  intro h
  obtain ⟨-, e⟩ := qAdd_q hq h
  refine ⟨k', [s], L, e, hk, hn, fun t ht => ?_, exE_one h5 h6 h7⟩
  rw [List.mem_singleton.mp ht]
  exact hs
theorem qAsk_w (hw : WfS F) (hn : n < 2 ^ 31) {k : Nat} (hk : k ≤ n) : ExQ n F 0 Q k (qAsk T n F k Q) := by
  have hF := hw.1
  have sl := @skip_le T n k hk
  unfold qAsk
  by_cases c : (qCol T n F k).1 = -1
  · rw [if_neg (fun q => q c)]
    obtain ⟨f1, f2, f3, f4, f5⟩ := qCol_f hw hn hk c
    have cf : colF F (qCol T n F k).2.2 := ⟨f1, f2, f3⟩
    generalize (qCol T n F k).2.2 = f at *
    generalize (qCol T n F k).2.1 = k1 at *
    have sg1 := skip_ge T n k1
    have sl1 := @skip_le T n k1 f5
    clear c
    by_cases c1 : isWd T n (skip T n k1) [105, 115]
    · rw [if_pos c1]
      have w1 : skip T n k1 + 2 ≤ n := isWd_le sl1 c1
      have sg2 := skip_ge T n (skip T n k1 + 2)
      have sl2 := @skip_le T n (skip T n k1 + 2) w1
      have one : ∀ (k2 : Nat) (s : QSt), k < k2 → k2 ≤ n → s.1 = 0 ∨ s.1 = 1 → stW F Q.2.2.2 s → ExQ n F 0 Q k (qAdd (skip T n k) s (qWrd T n [110, 117, 108, 108] (-1, k2, Q))) := by
        intro k2 s h1 h2 h3 hs h
        obtain ⟨h4, -⟩ := qAdd_q (by omega) h
        obtain ⟨-, e, w⟩ := qWrd_q h4 hn (show k2 ≤ n from h2)
        have w : isWd T n (skip T n k2) [110, 117, 108, 108] := w
        have e : qWrd T n [110, 117, 108, 108] (-1, k2, Q) = (-1, skip T n k2 + 4, Q) := e
        have := skip_ge T n k2
        have wl := isWd_le (skip_le h2) w
        have key := ExQ.one (n := n) (F := F) (Q := Q) (q := skip T n k) (k := k) (k' := skip T n k2 + 4) (s := s) (L := []) (by omega) (by omega) wl (by rw [List.append_nil]; exact hs) (by rcases h3 with e | e <;> rw [e] <;> decide) (by rcases h3 with e | e <;> rw [e] <;> decide) (by rcases h3 with e | e <;> rw [e] <;> decide)
        rw [List.append_nil] at key
        rw [e] at h ⊢
        exact key h
      unfold qIs
      by_cases c2 : isWd T n (skip T n (skip T n k1 + 2)) [110, 111, 116]
      · rw [if_pos c2]
        have w2 := isWd_le sl2 c2
        exact one _ _ (by omega) w2 (Or.inr rfl) (Or.inl ⟨f, cf, Or.inr rfl⟩)
      · rw [if_neg c2]
        exact one _ _ (by omega) sl2 (Or.inl rfl) (Or.inl ⟨f, cf, Or.inl rfl⟩)
    · rw [if_neg c1]
      by_cases c2 : isWd T n (skip T n k1) [105, 110]
      · rw [if_pos c2]
        have w1 : skip T n k1 + 2 ≤ n := isWd_le sl1 c2
        unfold qIn
        intro h
        obtain ⟨h1, -⟩ := qAdd_q (by omega) h
        obtain ⟨h2, e1⟩ := qBd_q h1
        obtain ⟨h3, e2⟩ := qBd_q h2
        obtain ⟨-, e3, k3⟩ := qSgn_q h3 hn (show skip T n k1 + 2 ≤ n from w1)
        have k3 : skip T n (skip T n k1 + 2) < n := k3
        have sg2 := skip_ge T n (skip T n k1 + 2)
        rw [e2, e3] at h2
        obtain ⟨k4, l, e4, hl4, k5, k6⟩ := qLit_w hn (show skip T n (skip T n k1 + 2) + 1 ≤ n from k3) h2
        have k5 : skip T n (skip T n k1 + 2) + 1 < k4 := k5
        rw [e1, e2, e3] at h1
        have h1 : (qLst T n (fTy F f) 65 (qLit T n (fTy F f) (skip T n (skip T n k1 + 2) + 1) Q).2.1 (qLit T n (fTy F f) (skip T n (skip T n k1 + 2) + 1) Q).2.2).1 = -1 := h1
        have e4 : qLit T n (fTy F f) (skip T n (skip T n k1 + 2) + 1) Q = _ := e4
        rw [e4] at h1
        obtain ⟨k7, L, e7, hl7, k8, k9⟩ := qLst_w hn _ _ _ k6 h1
        have er : qBd (qBd (qSgn T n 40 (-1, skip T n k1 + 2, Q)) (qLit T n (fTy F f))) (qLst T n (fTy F f) 65) = (-1, k7, (Q.1, Q.2.1, Q.2.2.1, Q.2.2.2 ++ (l :: L))) := by
          rw [e1, e2, e3]
          show qLst T n (fTy F f) 65 (qLit T n (fTy F f) (skip T n (skip T n k1 + 2) + 1) Q).2.1 (qLit T n (fTy F f) (skip T n (skip T n k1 + 2) + 1) Q).2.2 = _
          rw [e4]
          refine e7.trans ?_
          show (_, _, _, _, _, (Q.2.2.2 ++ [l]) ++ L) = _
          rw [List.append_assoc]
          rfl
        rw [er] at h ⊢
        refine ExQ.one (by omega) (by omega) k9 (Or.inr (Or.inl ⟨f, Q.2.2.2.length, (l :: L).length, cf, by show 0 < L.length + 1; omega, by rw [List.length_append]; omega, fun i i1 i2 => ?_, ?_⟩)) (by show ¬ (2 : Int32) = 5; decide) (by show ¬ (2 : Int32) = 6; decide) (by show ¬ (2 : Int32) = 7; decide) h
        · rw [gD_right i1]
          have i3 : i - Q.2.2.2.length < (l :: L).length := by omega
          generalize i - Q.2.2.2.length = j at i3
          have hm : (l :: L).getD j lt0 ∈ (l :: L) := by
            rw [List.getD_eq_getElem?_getD, List.getElem?_eq_getElem i3]
            exact List.getElem_mem i3
          rcases List.mem_cons.mp hm with q | q
          · rw [q]; exact hl4
          · exact hl7 _ q
        · show (_, _, _, _, nI ((Q.2.2.2 ++ (l :: L)).length - Q.2.2.2.length)) = _
          rw [List.length_append, Nat.add_sub_cancel_left]
      · rw [if_neg c2]
        unfold qCmp
        by_cases o1 : (qOp T n (skip T n k1)).1 = -1
        · rw [if_neg (fun q => q o1)]
          obtain ⟨o2, o3, o4⟩ := qOp_w hn sl1 o1
          generalize (qOp T n (skip T n k1)).2.2 = op at *
          generalize (qOp T n (skip T n k1)).2.1 = k2 at *
          have sg2 := skip_ge T n k2
          have sl2 := @skip_le T n k2 o4
          by_cases c3 : 0 < wln T n (skip T n k2) ∧ ¬ isWd T n (skip T n k2) [116, 114, 117, 101] ∧ ¬ isWd T n (skip T n k2) [102, 97, 108, 115, 101]
          · rw [if_pos c3]
            by_cases c4 : (qCol T n F (skip T n k2)).1 = -1
            · rw [if_neg (fun q => q c4)]
              obtain ⟨g1, g2, g3, g4, g5⟩ := qCol_f hw hn sl2 c4
              by_cases c5 : fTy F f = fTy F (qCol T n F (skip T n k2)).2.2 ∨ whl (fTy F f) ∧ whl (fTy F (qCol T n F (skip T n k2)).2.2)
              · rw [if_neg (fun q => q c5)]
                have key := ExQ.one (n := n) (F := F) (Q := Q) (q := skip T n k) (k := k) (k' := (qCol T n F (skip T n k2)).2.1) (s := (4, nI f, nI op, nI (qCol T n F (skip T n k2)).2.2, 0)) (L := []) (by omega) (by omega) g5 (Or.inr (Or.inr (Or.inr (Or.inl ⟨f, op, _, cf, o2, ⟨g1, g2, g3⟩, c5, rfl⟩)))) (by show ¬ (4 : Int32) = 5; decide) (by show ¬ (4 : Int32) = 6; decide) (by show ¬ (4 : Int32) = 7; decide)
                rw [List.append_nil] at key
                exact key
              · rw [if_pos c5]
                exact fun h => absurd h (nI_nm1 (by omega))
            · rw [if_pos c4]
              exact fun h => absurd h c4
          · rw [if_neg c3]
            intro h
            obtain ⟨h1, -⟩ := qAdd_q (by omega) h
            obtain ⟨k4, l, e4, hl4, k5, k6⟩ := qLit_w hn sl2 h1
            rw [e4] at h ⊢
            refine ExQ.one (by omega) (by omega) k6 (Or.inr (Or.inr (Or.inl ⟨f, op, Q.2.2.2.length, cf, o2, by rw [List.length_append]; show _ < _ + 1; omega, ?_, rfl⟩))) (by show ¬ (3 : Int32) = 5; decide) (by show ¬ (3 : Int32) = 6; decide) (by show ¬ (3 : Int32) = 7; decide) h
            rw [gD_right (Nat.le_refl _), Nat.sub_self]
            exact hl4
        · rw [if_pos o1]
          exact fun h => absurd h o1
  · rw [if_pos c]
    exact fun h => absurd h c
def opN (p : Option Nat) : Nat := if p.isSome then 1 else 0
theorem qAt_b {w : Int32} {p : Option Nat} {r : QR} (h : ¬ r.1 = -1) : qAt w p r = r := by
  cases p
  · rfl
  · exact qAdd_b h
/-- a step that joins comes behind -/
theorem ExQ.at {w : Int32} {p : Option Nat} {a k : Nat} {r : QR} (hw : w = 6 ∨ w = 7) (hp : ∀ q, p = some q → q < 2 ^ 31) (h : ExQ n F a Q k r) : ExQ n F (a + opN p) Q k (qAt w p r) := by
  cases p with
  | none => exact h
  | some q =>
    intro hh
    obtain ⟨h1, e⟩ := qAdd_q (hp q rfl) hh
    obtain ⟨k', E, L, er, h2, h3, h4, h5⟩ := h h1
    refine ⟨k', E ++ [(w, -1, -1, -1, 0)], L, ?_, h2, h3, fun s hs => ?_, exE_bin hw h5⟩
    · show qAdd q (w, -1, -1, -1, 0) r = _
      rw [e, er]
      show (_, _, _, _, (Q.2.2.1 ++ E) ++ [_], _) = _
      rw [List.append_assoc]
    · rcases List.mem_append.mp hs with q | q
      · exact h4 s q
      · rw [List.mem_singleton.mp q]
        rcases hw with e | e <;> rw [e]
        · exact Or.inr (Or.inr (Or.inr (Or.inr (Or.inr (Or.inl rfl)))))
        · exact Or.inr (Or.inr (Or.inr (Or.inr (Or.inr (Or.inr rfl)))))
theorem ExQ.app {a c k k2 k3 : Nat} {E : List QSt} {L : List QLt} {r : QR} (hE : ∀ s, s ∈ E → stW F (Q.2.2.2 ++ L) s) (hx : exE a E) (hk : k < k2) (h : ExQ n F (1 + c) (Q.1, Q.2.1, Q.2.2.1 ++ E, Q.2.2.2 ++ L) k3 r) (hk3 : k2 ≤ k3) : ExQ n F (a + c) Q k r := by
  intro hh
  obtain ⟨k', G, M, er, h2, h3, h4, h5⟩ := h hh
  refine ⟨k', E ++ G, L ++ M, ?_, by omega, h3, fun s hs => ?_, exE_app hx h5⟩
  · rw [er]
    show (_, _, _, _, (Q.2.2.1 ++ E) ++ G, (Q.2.2.2 ++ L) ++ M) = _
    rw [List.append_assoc, List.append_assoc]
  · rcases List.mem_append.mp hs with q | q
    · have := (hE s q).mono (M := M)
      rw [List.append_assoc] at this
      exact this
    · have := h4 s q
      have this : stW F ((Q.2.2.2 ++ L) ++ M) s := this
      rw [List.append_assoc] at this
      exact this
theorem qCnd_w {P : Nat → Qy → QR} (hn : n < 2 ^ 31) (hP : ∀ k Q, k ≤ n → ExQ n F 0 Q k (P k Q)) : ∀ d k oa aa Q, k ≤ n → (∀ q, aa = some q → q < 2 ^ 31) → (∀ q, oa = some q → q < 2 ^ 31) → ExQ n F (opN aa + opN oa) Q k (qCnd T n P d k oa aa Q) := by
  intro d
  induction d with
  | zero => intro k oa aa Q _ _ _ h; exact absurd h (by show ¬ (-3 : Int32) = -1; decide)
  | succ d ih =>
    intro k oa aa Q hk ha ho
    have a1 := ExQ.at (w := 6) (Or.inl rfl) ha (hP k Q hk)
    rw [Nat.zero_add] at a1
    intro h
    have h : (qBd (qAt 6 aa (P k Q)) (fun k Q => if isWd T n (skip T n k) [97, 110, 100] then qCnd T n P d (skip T n k + 3) oa (some (skip T n k)) Q else qBd (qAt 7 oa (-1, skip T n k, Q)) (fun k Q => if isWd T n (skip T n k) [111, 114] then qCnd T n P d (skip T n k + 2) (some (skip T n k)) none Q else (-1, skip T n k, Q)))).1 = -1 := h
    show ∃ k' E L, qBd (qAt 6 aa (P k Q)) (fun k Q => if isWd T n (skip T n k) [97, 110, 100] then qCnd T n P d (skip T n k + 3) oa (some (skip T n k)) Q else qBd (qAt 7 oa (-1, skip T n k, Q)) (fun k Q => if isWd T n (skip T n k) [111, 114] then qCnd T n P d (skip T n k + 2) (some (skip T n k)) none Q else (-1, skip T n k, Q))) = _ ∧ _
    obtain ⟨h1, e1⟩ := qBd_q h
    obtain ⟨k1, E, L, er, k2, k3, hE, hx⟩ := a1 h1
    rw [e1] at h ⊢
    rw [er] at h ⊢
    clear e1 a1 h1 er
    have h : (if isWd T n (skip T n k1) [97, 110, 100] then qCnd T n P d (skip T n k1 + 3) oa (some (skip T n k1)) (Q.1, Q.2.1, Q.2.2.1 ++ E, Q.2.2.2 ++ L) else qBd (qAt 7 oa (-1, skip T n k1, (Q.1, Q.2.1, Q.2.2.1 ++ E, Q.2.2.2 ++ L))) (fun k Q => if isWd T n (skip T n k) [111, 114] then qCnd T n P d (skip T n k + 2) (some (skip T n k)) none Q else (-1, skip T n k, Q))).1 = -1 := h
    show ∃ k' E' L', (if isWd T n (skip T n k1) [97, 110, 100] then qCnd T n P d (skip T n k1 + 3) oa (some (skip T n k1)) (Q.1, Q.2.1, Q.2.2.1 ++ E, Q.2.2.2 ++ L) else qBd (qAt 7 oa (-1, skip T n k1, (Q.1, Q.2.1, Q.2.2.1 ++ E, Q.2.2.2 ++ L))) (fun k Q => if isWd T n (skip T n k) [111, 114] then qCnd T n P d (skip T n k + 2) (some (skip T n k)) none Q else (-1, skip T n k, Q))) = _ ∧ _
    have sg := skip_ge T n k1
    have sl := @skip_le T n k1 k3
    by_cases c : isWd T n (skip T n k1) [97, 110, 100]
    · rw [if_pos c] at h ⊢
      have w := isWd_le sl c
      exact ExQ.app hE hx (show k < skip T n k1 + 3 by omega) (ih (skip T n k1 + 3) oa (some (skip T n k1)) _ w (fun q e => by injection e with e; omega) ho) (Nat.le_refl _) h
    · rw [if_neg c] at h ⊢
      have b0 : ExQ n F (opN aa) Q k (-1, skip T n k1, (Q.1, Q.2.1, Q.2.2.1 ++ E, Q.2.2.2 ++ L)) := fun _ => ⟨_, E, L, rfl, by omega, sl, hE, hx⟩
      have b1 := ExQ.at (w := 7) (Or.inr rfl) ho b0
      obtain ⟨h2, e2⟩ := qBd_q h
      obtain ⟨k4, G, M, er2, k5, k6, hG, hy⟩ := b1 h2
      rw [e2] at h ⊢
      rw [er2] at h ⊢
      clear e2 b1 b0 h2 er2
      have h : (if isWd T n (skip T n k4) [111, 114] then qCnd T n P d (skip T n k4 + 2) (some (skip T n k4)) none (Q.1, Q.2.1, Q.2.2.1 ++ G, Q.2.2.2 ++ M) else (-1, skip T n k4, (Q.1, Q.2.1, Q.2.2.1 ++ G, Q.2.2.2 ++ M))).1 = -1 := h
      show ∃ k' E' L', (if isWd T n (skip T n k4) [111, 114] then qCnd T n P d (skip T n k4 + 2) (some (skip T n k4)) none (Q.1, Q.2.1, Q.2.2.1 ++ G, Q.2.2.2 ++ M) else (-1, skip T n k4, (Q.1, Q.2.1, Q.2.2.1 ++ G, Q.2.2.2 ++ M))) = _ ∧ _
      have sg4 := skip_ge T n k4
      have sl4 := @skip_le T n k4 k6
      by_cases c2 : isWd T n (skip T n k4) [111, 114]
      · rw [if_pos c2] at h ⊢
        have w := isWd_le sl4 c2
        exact ExQ.app (c := 0) hG hy (show k < skip T n k4 + 2 by omega) (ih (skip T n k4 + 2) (some (skip T n k4)) none _ w (fun q e => nomatch e) (fun q e => by injection e with e; omega)) (Nat.le_refl _) h
      · rw [if_neg c2]
        exact ⟨_, G, M, rfl, by omega, sl4, hG, hy⟩
theorem qSgn_1 {c : Int32} {r : QR} (h : (qSgn T n c r).1 = -1) : r.1 = -1 := by
  by_cases d : r.1 = -1
  · exact d
  · rw [qSgn_b d] at h; exact absurd h d
theorem qTst_w (hw : WfS F) (hn : n < 2 ^ 31) : ∀ m k Q, k ≤ n → ExQ n F 0 Q k (qTst T n F m k Q) := by
  intro m
  induction m with
  | zero =>
    intro k Q hk
    have sl := @skip_le T n k hk
    unfold qTst
    by_cases c : isWd T n (skip T n k) [110, 111, 116] ∨ skip T n k < n ∧ T (skip T n k) = 40
    · rw [if_pos c]; exact fun h => absurd h (nI_nm1 (by omega))
    · rw [if_neg c]; exact qAsk_w hw hn hk
  | succ m ih =>
    intro k Q hk
    have sl := @skip_le T n k hk
    have sg := skip_ge T n k
    unfold qTst
    by_cases c : isWd T n (skip T n k) [110, 111, 116]
    · rw [if_pos c]
      have w := isWd_le sl c
      intro h
      obtain ⟨h1, e⟩ := qAdd_q (by omega) h
      obtain ⟨k', E, L, er, k2, k3, hE, hx⟩ := ih _ Q w h1
      have k2 : skip T n k + 3 < k' := k2
      refine ⟨k', E ++ [(5, -1, -1, -1, 0)], L, ?_, by omega, k3, fun s hs => ?_, exE_not hx⟩
      · rw [e]
        show (_, (qTst T n F m (skip T n k + 3) Q).2.1, (qTst T n F m (skip T n k + 3) Q).2.2.1, (qTst T n F m (skip T n k + 3) Q).2.2.2.1, (qTst T n F m (skip T n k + 3) Q).2.2.2.2.1 ++ [_], (qTst T n F m (skip T n k + 3) Q).2.2.2.2.2) = _
        have er : qTst T n F m (skip T n k + 3) Q = _ := er
        rw [er]
        show (_, _, _, _, (Q.2.2.1 ++ E) ++ [_], _) = _
        rw [List.append_assoc]
      · rcases List.mem_append.mp hs with q | q
        · exact hE s q
        · rw [List.mem_singleton.mp q]
          exact Or.inr (Or.inr (Or.inr (Or.inr (Or.inl rfl))))
    · rw [if_neg c]
      by_cases c2 : skip T n k < n ∧ T (skip T n k) = 40
      · rw [if_pos c2]
        intro h
        obtain ⟨k', E, L, er, k2, k3, hE, hx⟩ := qCnd_w (T := T) hn ih (n + 1) (skip T n k + 1) none none Q c2.1 (fun q e => nomatch e) (fun q e => nomatch e) (qSgn_1 h)
        rw [er] at h ⊢
        obtain ⟨-, e, k4⟩ := qSgn_q h hn (show k' ≤ n from k3)
        have k4 : skip T n k' < n := k4
        have sg2 := skip_ge T n k'
        exact ⟨skip T n k' + 1, E, L, e, by omega, k4, hE, hx⟩
      · rw [if_neg c2]; exact qAsk_w hw hn hk
end
