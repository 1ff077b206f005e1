/-! query(), model -/
/-- slot s holds the query Q -/
def KqM (x : St) (s : Nat) (Q : Qy) : Prop := SqM x s Q ∧ (∀ i, i < (ltB Q.2.2.2).length → fA x 92 (2000 * s + i) = (ltB Q.2.2.2).getD i 0) ∧ (ltB Q.2.2.2).length ≤ 2000
abbrev FrQy (x y : St) : Prop := Fg (fun o k => o = 0 ∧ (k = 0 ∨ k = 4 ∨ 15 ≤ k ∧ k ≤ 17 ∨ k = 25 ∨ k = 117 ∨ k = 118 ∨ k = 120 ∨ k = 139 ∨ k = 140)) no2 no2 (fun a => a = 16 ∨ 79 ≤ a ∧ a ≤ 92 ∨ a = 94 ∨ a = 95) (fun a => a = 93) x y
section
variable {T : Nat → Int32} {n s : Nat} {F : List SFd} {x y : St} {Q : Qy} {r : QR}
theorem SqM.keep {t : Nat} (h : SqM x t Q) (e : ∀ a i, 79 ≤ a → a ≤ 91 → wq a * t ≤ i → i < wq a * t + wq a → fA y a i = fA x a i) (e2 : ∀ i, 64 * t ≤ i → i < 64 * t + 64 → fL y 93 i = fL x 93 i) : SqM y t Q := by
  obtain ⟨⟨a1, a2, a3⟩, ⟨b1, b2, b3⟩, ⟨c1, c2, c3⟩, ⟨d1, d2, d3⟩⟩ := h
  refine ⟨⟨?_, a2, fun i hi => ?_⟩, ⟨?_, b2, fun i hi => ?_⟩, ⟨?_, c2, fun i hi => ?_⟩, ⟨?_, d2, fun i hi => ?_⟩⟩
  · rw [e 79 _ (by decide) (by decide) (by show 4 * t ≤ _; omega) (by show _ < 4 * t + 4; omega)]; exact a1
  · rw [e 80 _ (by decide) (by decide) (by show 16 * t ≤ _; omega) (by show _ < 16 * t + 16; omega), e 81 _ (by decide) (by decide) (by show 16 * t ≤ _; omega) (by show _ < 16 * t + 16; omega), e 82 _ (by decide) (by decide) (by show 16 * t ≤ _; omega) (by show _ < 16 * t + 16; omega)]; exact a3 i hi
  · rw [e 79 _ (by decide) (by decide) (by show 4 * t ≤ _; omega) (by show _ < 4 * t + 4; omega)]; exact b1
  · rw [e 83 _ (by decide) (by decide) (by show 8 * t ≤ _; omega) (by show _ < 8 * t + 8; omega)]; exact b3 i hi
  · rw [e 79 _ (by decide) (by decide) (by show 4 * t ≤ _; omega) (by show _ < 4 * t + 4; omega)]; exact c1
  · rw [e 84 _ (by decide) (by decide) (by show 64 * t ≤ _; omega) (by show _ < 64 * t + 64; omega), e 85 _ (by decide) (by decide) (by show 64 * t ≤ _; omega) (by show _ < 64 * t + 64; omega), e 86 _ (by decide) (by decide) (by show 64 * t ≤ _; omega) (by show _ < 64 * t + 64; omega), e 87 _ (by decide) (by decide) (by show 64 * t ≤ _; omega) (by show _ < 64 * t + 64; omega), e 88 _ (by decide) (by decide) (by show 64 * t ≤ _; omega) (by show _ < 64 * t + 64; omega)]; exact c3 i hi
  · rw [e 79 _ (by decide) (by decide) (by show 4 * t ≤ _; omega) (by show _ < 4 * t + 4; omega)]; exact d1
  · rw [e 89 _ (by decide) (by decide) (by show 64 * t ≤ _; omega) (by show _ < 64 * t + 64; omega), e 90 _ (by decide) (by decide) (by show 64 * t ≤ _; omega) (by show _ < 64 * t + 64; omega), e 91 _ (by decide) (by decide) (by show 64 * t ≤ _; omega) (by show _ < 64 * t + 64; omega), e2 _ (by omega) (by omega)]; exact d3 i hi
theorem wq_le (a : Nat) : wq a = 4 ∨ wq a = 8 ∨ wq a = 16 ∨ wq a = 64 := by
  unfold wq
  split
  · exact Or.inl rfl
  · split
    · exact Or.inr (Or.inr (Or.inl rfl))
    · split
      · exact Or.inr (Or.inl rfl)
      · exact Or.inr (Or.inr (Or.inr rfl))
theorem slotq_ne {w s t i : Nat} (h : s ≠ t) (hw : w = 4 ∨ w = 8 ∨ w = 16 ∨ w = 64) (h1 : w * t ≤ i) (h2 : i < w * t + w) : ¬ (w * s ≤ i ∧ i < w * s + w) := by
  rcases hw with e | e | e | e <;> subst e <;> omega
theorem KqM.fq {b : Prop} {t : Nat} (h : KqM x t Q) (f : FqM b s x y) (hst : s ≠ t) : KqM y t Q := by
  refine ⟨h.1.keep (fun a i a1 a2 i1 i2 => f.2.2.2.1 a i (fun q => ?_)) (fun i i1 i2 => f.2.2.2.2.1 93 i (fun q => by omega)), fun i hi => ?_, h.2.2⟩
  · rcases q with q | q | q
    · omega
    · obtain ⟨-, q⟩ := q; omega
    · exact slotq_ne hst (wq_le a) i1 i2 q.2.2
  · rw [← h.2.1 i hi]
    refine f.2.2.2.1 92 _ (fun q => ?_)
    rcases q with q | q | q
    · omega
    · obtain ⟨-, q⟩ := q; omega
    · omega
theorem FqM.fr {b : Prop} (f : FqM b s x y) : FrQy x y := by
  obtain ⟨f1, f2, f3, f4, f5, f6⟩ := f
  refine ⟨fun o k c => f1 o k (fun q => c ⟨q.1, ?_⟩), fun o k _ => by rw [f2], fun o k _ => by rw [f3], fun a c => funext (fun i => f4 a i (fun q => c ?_)), fun a c => funext (fun i => f5 a i (fun q => c q.1)), f6⟩
  · rcases q.2 with q | q | q | q
    · omega
    · omega
    · omega
    · obtain ⟨-, q⟩ := q; omega
  · rcases q with q | q | q
    · omega
    · obtain ⟨-, q⟩ := q; omega
    · omega
/-- an item that can stand -/
def itW (F : List SFd) (n : Nat) (i : QIt) : Prop := i.2.2 ≤ n ∧ ((i.1 = 0 ∧ ∃ f, f < F.length ∧ i.2.1 = nI f) ∨ (i.1 = 1 ∧ i.2.1 = -1) ∨ (2 ≤ i.1 ∧ i.1 ≤ 5 ∧ ∃ f, colF F f ∧ i.2.1 = nI f ∧ (i.1 = 3 → whl (fTy F f))))
theorem qIt_q {p : Nat} {w f : Int32} (h : (qIt p w f r).1 = -1) : r.1 = -1 ∧ qIt p w f r = (-1, r.2.1, (r.2.2.1 ++ [(w, f, p)], r.2.2.2)) := by
  unfold qIt at h ⊢
  by_cases c : r.1 = -1
  · rw [if_pos c]; exact ⟨c, rfl⟩
  · rw [if_neg c] at h; exact absurd h c
theorem qItm_w (hw : WfS F) (hn : n < 2 ^ 31) {k : Nat} (hk : k ≤ n) (h : (qItm T n F k Q).1 = -1) : ∃ k' it, qItm T n F k Q = (-1, k', (Q.1 ++ [it], Q.2)) ∧ itW F n it ∧ k < k' ∧ k' ≤ n := by
  have hF := hw.1
  have sl := @skip_le T n k hk
  have sg := skip_ge T n k
  unfold qItm at h ⊢
  by_cases c : Q.1.length = 16
  · rw [if_pos c] at h; exact absurd h (nI_nm1 (by omega))
  · rw [if_neg c] at h ⊢
    have fm : (qFm T n k).2 = 0 ∨ (1 ≤ (qFm T n k).2 ∧ (qFm T n k).2 ≤ 5 ∧ ¬ (qFm T n k).2 = 2 ∧ k < (qFm T n k).1 ∧ (qFm T n k).1 ≤ n) := by
      unfold qFm
      split
      · rename_i w
        have := isWd_le sl w
        have g := skip_ge T n (skip T n k + 5)
        exact Or.inr ⟨(by decide : (1 : Int32) ≤ 1), (by decide : (1 : Int32) ≤ 5), (by decide : ¬ (1 : Int32) = 2), by show k < skip T n (skip T n k + 5); omega, skip_le this⟩
      · split
        · rename_i w
          have := isWd_le sl w
          have g := skip_ge T n (skip T n k + 3)
          exact Or.inr ⟨(by decide : (1 : Int32) ≤ 3), (by decide : (3 : Int32) ≤ 5), (by decide : ¬ (3 : Int32) = 2), by show k < skip T n (skip T n k + 3); omega, skip_le this⟩
        · split
          · rename_i w
            have := isWd_le sl w
            have g := skip_ge T n (skip T n k + 3)
            exact Or.inr ⟨(by decide : (1 : Int32) ≤ 4), (by decide : (4 : Int32) ≤ 5), (by decide : ¬ (4 : Int32) = 2), by show k < skip T n (skip T n k + 3); omega, skip_le this⟩
          · split
            · rename_i w
              have := isWd_le sl w
              have g := skip_ge T n (skip T n k + 3)
              exact Or.inr ⟨(by decide : (1 : Int32) ≤ 5), (by decide : (5 : Int32) ≤ 5), (by decide : ¬ (5 : Int32) = 2), by show k < skip T n (skip T n k + 3); omega, skip_le this⟩
            · exact Or.inl rfl
    by_cases c1 : (qFm T n k).2 = 0
    · rw [if_pos c1] at h ⊢
      by_cases c2 : (qPa T n F k).1 = -1
      · rw [if_neg (fun q => q c2)] at h ⊢
        by_cases c3 : (qPa T n F k).2.2 = -1
        · rw [if_pos c3] at h; exact absurd h (nI_nm1 (by omega))
        · rw [if_neg c3] at h ⊢
          have kp := qPth_k (T := T) (F := F) hn (n + 1) (skip T n k) (-1) false sl c2
          have kp1 : skip T n k < (qPa T n F k).2.1 := kp.1
          refine ⟨_, _, (qIt_q h).2, ⟨sl, Or.inl ⟨rfl, ?_⟩⟩, by show k < (qPa T n F k).2.1; omega, kp.2⟩
          rcases (qPth_f (T := T) (n := n) (F := F) (by omega) (n + 1) (skip T n k) (-1) false) with e | e
          · exact absurd e c3
          · exact e
      · rw [if_pos c2] at h; exact absurd h c2
    · rw [if_neg c1] at h ⊢
      rcases fm with e | ⟨f1, f2, f3, f4, f5⟩
      · exact absurd e c1
      · generalize (qFm T n k).1 = k1 at *
        generalize (qFm T n k).2 = w at *
        by_cases c2 : w = 1 ∧ ¬ (k1 < n ∧ T k1 = 40)
        · rw [if_pos c2] at h ⊢
          exact ⟨_, _, (qIt_q h).2, ⟨sl, Or.inr (Or.inl ⟨rfl, rfl⟩)⟩, f4, f5⟩
        · rw [if_neg c2] at h ⊢
          unfold qAgg at h ⊢
          obtain ⟨h1, e1⟩ := qBd_q h
          obtain ⟨-, e2, k2⟩ := qSgn_q h1 hn (show k1 ≤ n from f5)
          have k2 : skip T n k1 < n := k2
          have g2 := skip_ge T n k1
          rw [e1] at h ⊢
          rw [e2] at h ⊢
          have h : (if ¬ (qCol T n F (skip T n k1 + 1)).1 = -1 then ((qCol T n F (skip T n k1 + 1)).1, (qCol T n F (skip T n k1 + 1)).2.1, Q) else if (if w = 1 then 2 else w) = 3 ∧ ¬ whl (fTy F (qCol T n F (skip T n k1 + 1)).2.2) then (nI (skip T n (skip T n k1 + 1)), (qCol T n F (skip T n k1 + 1)).2.1, Q) else qIt (skip T n k) (if w = 1 then 2 else w) (nI (qCol T n F (skip T n k1 + 1)).2.2) (qSgn T n 41 (-1, (qCol T n F (skip T n k1 + 1)).2.1, Q))).1 = -1 := h
          show ∃ k' it, (if ¬ (qCol T n F (skip T n k1 + 1)).1 = -1 then ((qCol T n F (skip T n k1 + 1)).1, (qCol T n F (skip T n k1 + 1)).2.1, Q) else if (if w = 1 then 2 else w) = 3 ∧ ¬ whl (fTy F (qCol T n F (skip T n k1 + 1)).2.2) then (nI (skip T n (skip T n k1 + 1)), (qCol T n F (skip T n k1 + 1)).2.1, Q) else qIt (skip T n k) (if w = 1 then 2 else w) (nI (qCol T n F (skip T n k1 + 1)).2.2) (qSgn T n 41 (-1, (qCol T n F (skip T n k1 + 1)).2.1, Q))) = _ ∧ _
          by_cases c3 : (qCol T n F (skip T n k1 + 1)).1 = -1
          · rw [if_neg (fun q => q c3)] at h ⊢
            obtain ⟨g3, g4, g5, g6, g7⟩ := qCol_f hw hn (show skip T n k1 + 1 ≤ n from k2) c3
            have sl3 := @skip_le T n (skip T n k1 + 1) k2
            by_cases c4 : (if w = 1 then 2 else w) = 3 ∧ ¬ whl (fTy F (qCol T n F (skip T n k1 + 1)).2.2)
            · rw [if_pos c4] at h; exact absurd h (nI_nm1 (by omega))
            · rw [if_neg c4] at h ⊢
              obtain ⟨h5, e5⟩ := qIt_q h
              obtain ⟨-, e6, k6⟩ := qSgn_q h5 hn (show (qCol T n F (skip T n k1 + 1)).2.1 ≤ n from g7)
              have g8 := skip_ge T n (qCol T n F (skip T n k1 + 1)).2.1
              have k6 : skip T n (qCol T n F (skip T n k1 + 1)).2.1 < n := k6
              refine ⟨skip T n (qCol T n F (skip T n k1 + 1)).2.1 + 1, ((if w = 1 then 2 else w), nI (qCol T n F (skip T n k1 + 1)).2.2, skip T n k), ?_, ⟨sl, Or.inr (Or.inr ⟨?_, ?_, _, ⟨g3, g4, g5⟩, rfl, fun q => Decidable.byContradiction (fun z => c4 ⟨q, z⟩)⟩)⟩, by omega, k6⟩
              · rw [e5, e6]
              · show 2 ≤ (if w = 1 then 2 else w)
                split
                · decide
                · rename_i d
                  clear h c4 c2 e5 e6 e1 e2 h1 h5
                  (first | omega | (simp (disch := omega) only [Int32.le_iff_toInt_le, Int32.lt_iff_toInt_lt, z_eq, z_in, nI_toInt, z_cl, z_m1, z_sg, z_255, Int32.reduceToInt] at * <;> omega) | (simp only [Int32.le_iff_toInt_le, Int32.lt_iff_toInt_lt, z_eq, z_in, z_add, z_sub, z_mul, z_neg, z_nI, z_cl, z_sg, z_255, z_lit, Int32.reduceToInt] at * <;> omega))
              · show (if w = 1 then 2 else w) ≤ 5
                split
                · decide
                · exact f2
          · rw [if_pos c3] at h; exact absurd h c3
/-- behind an item -/
def qItT (T : Nat → Int32) (n : Nat) (F : List SFd) (d k : Nat) (Q : Qy) : QR := if skip T n k < n ∧ T (skip T n k) = 44 then qIts T n F d (skip T n k + 1) Q else (-1, skip T n k, Q)
theorem qIts_eq {d k : Nat} : qIts T n F (d + 1) k Q = qBd (qItm T n F k Q) (qItT T n F d) := rfl
def qByT (T : Nat → Int32) (n : Nat) (F : List SFd) (d k : Nat) (Q : Qy) : QR := if skip T n k < n ∧ T (skip T n k) = 44 then qBys T n F d (skip T n k + 1) Q else (-1, skip T n k, Q)
theorem qBys_eq {d k : Nat} : qBys T n F (d + 1) k Q = qBd (qBy T n F k Q) (qByT T n F d) := rfl
theorem qBy_w (hw : WfS F) (hn : n < 2 ^ 31) {k : Nat} (hk : k ≤ n) (h : (qBy T n F k Q).1 = -1) : ∃ k' f, qBy T n F k Q = (-1, k', (Q.1, Q.2.1 ++ [f], Q.2.2)) ∧ colF F f ∧ k < k' ∧ k' ≤ n := by
  have sl := @skip_le T n k hk
  unfold qBy at h ⊢
  by_cases c : Q.2.1.length = 8
  · rw [if_pos c] at h; exact absurd h (nI_nm1 (by omega))
  · rw [if_neg c] at h ⊢
    by_cases c1 : (qCol T n F k).1 = -1
    · rw [if_neg (fun q => q c1)] at h ⊢
      obtain ⟨g3, g4, g5, g6, g7⟩ := qCol_f hw hn hk c1
      by_cases c2 : byB Q.2.1 (nI (qCol T n F k).2.2) = true
      · rw [if_pos c2] at h; exact absurd h (nI_nm1 (by omega))
      · rw [if_neg c2]
        exact ⟨_, _, rfl, ⟨g3, g4, g5⟩, g6, g7⟩
    · rw [if_pos c1] at h; exact absurd h c1
def K149 (post : Int32 → St → Prop) (l1 : Int32) (z : St) : Prop := wp_Mod_takesWord (fun (r2242 : Int32) (x2241 : St) => ((r2242 = 0 → j_Mod_query_179 post l1 x2241) ∧ (¬ r2242 = 0 → wp_Mod_readCondition (fun (x2244 : St) => j_Mod_query_179 post l1 x2244) x2241))) 512852587109 z
theorem j149_eq {post : Int32 → St → Prop} {rec : Int32 → St → Prop} {l1 : Int32} {z : St} : j_Mod_query_149 post rec l1 z = wp_Mod_takesSign (fun (r2239 : Int32) (x2238 : St) => ((r2239 = 0 → K149 post l1 x2238) ∧ (¬ r2239 = 0 → wp_Mod_readItem (fun (x2245 : St) => rec l1 x2245) x2238))) 44 z := rfl
theorem s_qItsL (hB : BsM x T n F s) {post : Int32 → St → Prop} {l1 : Int32} : ∀ d r0 y, (r0.1 = -1 → 17 ≤ r0.2.2.1.length + d) → RqM True n s x r0 y → (∀ z, RqM True n s x (qBd r0 (qItT T n F d)) z → K149 post l1 z) → wl_Mod_query_149 post (d + 1) l1 y := by
  have t2 := hB.2.1
  intro d
  induction d with
  | zero =>
    intro r0 y hd h K
    show j_Mod_query_149 post _ l1 y
    rw [j149_eq]
    by_cases c : r0.1 = -1
    · have := (h.gd c).2.2.2.2.1.1.2.1
      have := hd c
      omega
    · rw [qBd_b c] at K
      exact s_qSign hB (by decide) h (fun a => absurd a c) (fun _ z hz => br_t rfl (K z ((hz.ft c).rs c)))
  | succ d ih =>
    intro r0 y hd h K
    show j_Mod_query_149 post (wl_Mod_query_149 post (d + 1)) l1 y
    rw [j149_eq]
    refine s_qSign hB (by decide) h (fun a1 a2 a3 z hz => br_f (by decide) ?_) (fun a z hz => br_t rfl (K z ?_))
    · rw [qBd_g a1] at K
      have e : qItT T n F (d + 1) r0.2.1 r0.2.2 = qBd (qItm T n F (skip T n r0.2.1 + 1) r0.2.2) (qItT T n F d) := by unfold qItT; rw [if_pos ⟨a2, a3⟩]; rfl
      rw [e] at K
      have gz := hz.gd rfl
      refine s_qItm hB gz (fun w hw => ih _ w (fun e2 => ?_) hw K)
      obtain ⟨k', it, e3, -⟩ := qItm_w hB.2.2.2.1 (by omega) gz.2.2.2.1 e2
      have e3 : qItm T n F (skip T n r0.2.1 + 1) r0.2.2 = _ := e3
      show 17 ≤ (qItm T n F (skip T n r0.2.1 + 1) r0.2.2).2.2.1.length + d
      rw [e3]
      have := hd a1
      show 17 ≤ (r0.2.2.1 ++ [it]).length + d
      rw [List.length_append]
      show 17 ≤ r0.2.2.1.length + 1 + d
      omega
    · by_cases c : r0.1 = -1
      · rw [qBd_g c]
        unfold qItT
        rw [if_neg (fun q => a ⟨c, q⟩)]
        rw [c] at hz
        exact hz
      · rw [qBd_b c]
        exact (hz.ft c).rs c
theorem s_qBysL (hB : BsM x T n F s) {post : Int32 → St → Prop} {l1 : Int32} : ∀ d r0 y, (r0.1 = -1 → 9 ≤ r0.2.2.2.1.length + d) → RqM True n s x r0 y → (∀ z, RqM True n s x (qBd r0 (qByT T n F d)) z → j_Mod_query_235 post l1 z) → wl_Mod_query_219 post (d + 1) l1 y := by
  have t2 := hB.2.1
  intro d
  induction d with
  | zero =>
    intro r0 y hd h K
    show j_Mod_query_219 post _ l1 y
    unfold j_Mod_query_219
    by_cases c : r0.1 = -1
    · have := (h.gd c).2.2.2.2.1.2.1.2.1
      have := hd c
      omega
    · rw [qBd_b c] at K
      exact s_qSign hB (by decide) h (fun a => absurd a c) (fun _ z hz => br_t rfl (K z ((hz.ft c).rs c)))
  | succ d ih =>
    intro r0 y hd h K
    show j_Mod_query_219 post (wl_Mod_query_219 post (d + 1)) l1 y
    unfold j_Mod_query_219
    refine s_qSign hB (by decide) h (fun a1 a2 a3 z hz => br_f (by decide) ?_) (fun a z hz => br_t rfl (K z ?_))
    · rw [qBd_g a1] at K
      have e : qByT T n F (d + 1) r0.2.1 r0.2.2 = qBd (qBy T n F (skip T n r0.2.1 + 1) r0.2.2) (qByT T n F d) := by unfold qByT; rw [if_pos ⟨a2, a3⟩]; rfl
      rw [e] at K
      have gz := hz.gd rfl
      refine s_qBy hB gz (fun w hw => ih _ w (fun e2 => ?_) hw K)
      obtain ⟨k', it, e3, -⟩ := qBy_w hB.2.2.2.1 (by omega) gz.2.2.2.1 e2
      have e3 : qBy T n F (skip T n r0.2.1 + 1) r0.2.2 = _ := e3
      show 9 ≤ (qBy T n F (skip T n r0.2.1 + 1) r0.2.2).2.2.2.1.length + d
      rw [e3]
      have := hd a1
      show 9 ≤ (r0.2.2.2.1 ++ [it]).length + d
      rw [List.length_append]
      show 9 ≤ r0.2.2.2.1.length + 1 + d
      omega
    · by_cases c : r0.1 = -1
      · rw [qBd_g c]
        unfold qByT
        rw [if_neg (fun q => a ⟨c, q⟩)]
        rw [c] at hz
        exact hz
      · rw [qBd_b c]
        exact (hz.ft c).rs c
end
