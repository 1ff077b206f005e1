/-! conditions of a query, model: tests, joined -/
def cE (post rec : St → Prop) (z : St) : Prop := ((¬ (fI z 0 139) = 0 → wp_Mod_wantSign (fun (u : St) => (∀ v : St, v = setI u 0 139 ((fI u 0 139) - 1) → (∀ w : St, w = setI v 0 140 ((fI v 0 140) - 1) → rec w))) 41 z) ∧ ((fI z 0 139) = 0 → post z))
def c3 (post rec : St → Prop) (z : St) : Prop := (((fI z 0 17) = (-1) → wp_Mod_sees (fun (r : Int32) (z : St) => ((r = 0 → cE post rec z) ∧ (¬ r = 0 → wp_Mod_push (fun (u : St) => (∀ v : St, v = setI u 0 16 ((fI u 0 16) + 2) → wp_Mod_readTest (fun (w : St) => rec w) v)) 3 (fI z 0 16) z))) 28530 z) ∧ (¬ (fI z 0 17) = (-1) → post z))
def c2 (post rec : St → Prop) (z : St) : Prop := (((fI z 0 17) = (-1) → wp_Mod_sees (fun (r : Int32) (z : St) => ((r = 0 → wp_Mod_joins (c3 post rec) 3 z) ∧ (¬ r = 0 → wp_Mod_push (fun (u : St) => (∀ v : St, v = setI u 0 16 ((fI u 0 16) + 3) → wp_Mod_readTest (fun (w : St) => rec w) v)) 2 (fI z 0 16) z))) 6385252 z) ∧ (¬ (fI z 0 17) = (-1) → post z))
def c1 (post rec : St → Prop) (z : St) : Prop := wp_Mod_joins (c2 post rec) 2 z
theorem j14_eq {post rec : St → Prop} {z : St} : j_Mod_readCondition_14 post rec z = ((¬ (fI z 0 17) = (-1) → post z) ∧ ((fI z 0 17) = (-1) → wp_Mod_joins (c1 post rec) 1 z)) := rfl
def pz (aa oa : Option Nat) (P : Pil) : Pil := (match aa with | none => [] | some p => [(2, p)]) ++ ((match oa with | none => [] | some p => [(3, p)]) ++ P)
section
variable {T : Nat → Int32} {n s : Nat} {F : List SFd} {x : St} {post : St → Prop}
/-- a fault ends all -/
theorem c14_b {z : St} {e : Int32} (he : ¬ e = -1) (h : FfM True s x z e) (p : post z) (N : Nat) : wl_Mod_readCondition_14 post (N + 1) z := by
  show j_Mod_readCondition_14 post _ z
  rw [j14_eq]
  exact bn_f (by rw [h.2.1]; exact he) p
abbrev okTst (x : St) (T : Nat → Int32) (n : Nat) (F : List SFd) (s : Nat) (post : St → Prop) (m : Nat) : Prop := ∀ (k : Nat) (Q : Qy) (P : Pil) (y : St) (N M : Nat) (P' : St → Prop), opn P + m = 32 → P.length ≤ 3 * opn P + 2 → n + 2 ≤ k + N → n + 2 ≤ k + M → CdM n s x y k Q P →
    (∀ z, wl_Mod_readCondition_14 post N z → P' z) →
    ((qTst T n F m k Q).1 = -1 → ∀ z N', n + 1 ≤ (qTst T n F m k Q).2.1 + N' → CdM n s x z (qTst T n F m k Q).2.1 (qTst T n F m k Q).2.2 P → ∀ i, P.length < i → wl_Mod_joins_0 (c1 post (wl_Mod_readCondition_14 post N')) i 1 z) →
    (¬ (qTst T n F m k Q).1 = -1 → ∀ z, FfM True s x z (qTst T n F m k Q).1 → post z) → wl_Mod_readTest_0 P' M y
abbrev okCnd (x : St) (T : Nat → Int32) (n : Nat) (F : List SFd) (s : Nat) (post : St → Prop) (m d : Nat) : Prop := ∀ (k : Nat) (oa aa : Option Nat) (Q : Qy) (P : Pil) (y : St) (N M : Nat) (P' : St → Prop), n + 1 ≤ k + d → (∀ p P0, P = p :: P0 → p.1 = 0) → (∀ p, aa = some p → p ≤ n) → (∀ p, oa = some p → p ≤ n) → P.length ≤ 3 * opn P → opn P + m = 32 → n + 2 ≤ k + N → n + 2 ≤ k + M → CdM n s x y k Q (pz aa oa P) →
    (∀ z, wl_Mod_readCondition_14 post N z → P' z) →
    ((qCnd T n (qTst T n F m) d k oa aa Q).1 = -1 → ∀ z N', n + 1 ≤ (qCnd T n (qTst T n F m) d k oa aa Q).2.1 + N' → CdM n s x z (qCnd T n (qTst T n F m) d k oa aa Q).2.1 (qCnd T n (qTst T n F m) d k oa aa Q).2.2 P → cE post (wl_Mod_readCondition_14 post N') z) →
    (¬ (qCnd T n (qTst T n F m) d k oa aa Q).1 = -1 → ∀ z, FfM True s x z (qCnd T n (qTst T n F m) d k oa aa Q).1 → post z) → wl_Mod_readTest_0 P' M y
theorem opn_pz {aa oa : Option Nat} {P : Pil} : opn (pz aa oa P) = opn P := by
  cases aa <;> cases oa <;> unfold pz <;> simp [opn]
theorem len_pz {aa oa : Option Nat} {P : Pil} : (pz aa oa P).length ≤ P.length + 2 := by
  cases aa <;> cases oa <;> unfold pz <;> simp
theorem cnd_ok (hB : BsM x T n F s) {m : Nat} (hT : okTst x T n F s post m) : ∀ d, okCnd x T n F s post m d := by
  have t2 := hB.2.1
  have hw := hB.2.2.2.1
  intro d
  induction d with
  | zero =>
    intro k oa aa Q P y N M P' hd _ _ _ _ _ _ _ hC
    have := hC.1.2.2.2.1
    omega
  | succ d ih =>
    intro k oa aa Q P y N M P' hd hbd haa hoa hlen hop hN hM hC hP pg pb
    have hk := hC.1.2.2.2.1
    have lpz := @len_pz aa oa P
    have hl32 : opn P ≤ 32 := by omega
    have eq1 : qCnd T n (qTst T n F m) (d + 1) k oa aa Q = qBd (qAt 6 aa (qTst T n F m k Q)) (fun k Q => if isWd T n (skip T n k) [97, 110, 100] then qCnd T n (qTst T n F m) d (skip T n k + 3) oa (some (skip T n k)) Q else qBd (qAt 7 oa (-1, skip T n k, Q)) (fun k Q => if isWd T n (skip T n k) [111, 114] then qCnd T n (qTst T n F m) d (skip T n k + 2) (some (skip T n k)) none Q else (-1, skip T n k, Q))) := rfl
    rw [eq1] at pg pb
    refine hT k Q (pz aa oa P) y N M P' (by rw [opn_pz]; exact hop) (by rw [opn_pz]; omega) hN hM hC hP (fun c z N' hN' hz i hi => ?_) (fun c z hz => ?_)
    rotate_left
    · rw [qBd_b (by rw [qAt_b c]; exact c), qAt_b c] at pb
      exact pb c z hz
    have mono := qTst_w (T := T) hw (by omega) m k Q hk c
    obtain ⟨k1, E0, L0, e0, k2, k3, -, -⟩ := mono
    have k1e : (qTst T n F m k Q).2.1 = k1 := by rw [e0]
    rw [k1e] at hN' hz
    -- behind the and
    have cB : ∀ (k4 : Nat) (Q4 : Qy) (u : St), k1 ≤ k4 → k4 ≤ n → CdM n s x u k4 Q4 P → ((if isWd T n (skip T n k4) [111, 114] then qCnd T n (qTst T n F m) d (skip T n k4 + 2) (some (skip T n k4)) none Q4 else (-1, skip T n k4, Q4)).1 = -1 → ∀ z N', n + 1 ≤ (if isWd T n (skip T n k4) [111, 114] then qCnd T n (qTst T n F m) d (skip T n k4 + 2) (some (skip T n k4)) none Q4 else (-1, skip T n k4, Q4)).2.1 + N' → CdM n s x z (if isWd T n (skip T n k4) [111, 114] then qCnd T n (qTst T n F m) d (skip T n k4 + 2) (some (skip T n k4)) none Q4 else (-1, skip T n k4, Q4)).2.1 (if isWd T n (skip T n k4) [111, 114] then qCnd T n (qTst T n F m) d (skip T n k4 + 2) (some (skip T n k4)) none Q4 else (-1, skip T n k4, Q4)).2.2 P → cE post (wl_Mod_readCondition_14 post N') z) → (¬ (if isWd T n (skip T n k4) [111, 114] then qCnd T n (qTst T n F m) d (skip T n k4 + 2) (some (skip T n k4)) none Q4 else (-1, skip T n k4, Q4)).1 = -1 → ∀ z, FfM True s x z (if isWd T n (skip T n k4) [111, 114] then qCnd T n (qTst T n F m) d (skip T n k4 + 2) (some (skip T n k4)) none Q4 else (-1, skip T n k4, Q4)).1 → post z) → c3 post (wl_Mod_readCondition_14 post N') u := by
      intro k4 Q4 u g1 g2 hu qg qb
      have sg := skip_ge T n k4
      have sl := @skip_le T n k4 g2
      unfold c3
      refine br_t hu.1.2.1 (s_qSees (hB.fq hu.1.1) gw_or.1 gw_or.2 (RqM.good hu.self) (fun _ w v hv => br_f (by decide) ?_) (fun w v hv => br_t rfl ?_))
      · have w : isWd T n (skip T n k4) [111, 114] := w
        rw [if_pos w] at qg qb
        have w2 := isWd_le sl w
        have hv2 : RpM n s x (-1, skip T n k4, Q4) P v := hu.up hv
        have cv := hv2.gd rfl
        rw [show fI v 0 16 = nI (skip T n k4) from cv.1.2.2.1]
        refine s_qPush hB (by omega) hv2.1 hv2.2.1 hv2.2.2.2 (fun a ha a139 a140 aR a16 => nm_r (e' := setI a 0 16 (nI (skip T n k4 + 2))) ?_ ⟨n + 2, ?_⟩)
        · rw [a16, show fI v 0 16 = nI (skip T n k4) from cv.1.2.2.1, show (2 : Int32) = nI 2 from rfl, nI_add]
        · refine ih (skip T n k4 + 2) (some (skip T n k4)) none Q4 P _ N' (n + 2) _ (by omega) hbd (fun p e => nomatch e) (fun p e => by injection e with e; omega) hlen hop (by omega) (by omega) ⟨(ha.gd rfl).k (show skip T n k4 ≤ _ by omega) w2, a139, ?_, aR⟩ (fun z q => q) qg qb
          show fI a 0 140 = _
          rw [a140, hv2.2.2.1]
          show nI (opn P) = nI ((if (3 : Int32) = 0 ∨ (3 : Int32) = 1 then 1 else 0) + opn P)
          rw [if_neg (by decide), Nat.zero_add]
      · have w : ¬ ((-1 : Int32) = -1 ∧ isWd T n (skip T n k4) [111, 114]) := w
        have w : ¬ isWd T n (skip T n k4) [111, 114] := fun q => w ⟨rfl, q⟩
        rw [if_neg w] at qg
        have hv2 : RpM n s x (-1, skip T n k4, Q4) P v := hu.up hv
        exact qg rfl v N' (by show n + 1 ≤ skip T n k4 + N'; omega) (hv2.gd rfl)
    -- behind the test
    have cA : ∀ (k4 : Nat) (Q4 : Qy) (u : St), qAt 6 aa (qTst T n F m k Q) = (-1, k4, Q4) → k1 ≤ k4 → k4 ≤ n → CdM n s x u k4 Q4 (pz none oa P) → c2 post (wl_Mod_readCondition_14 post N') u := by
      intro k4 Q4 u e4 g1 g2 hu
      rw [e4, qBd_g rfl] at pg pb
      have sg := skip_ge T n k4
      have sl := @skip_le T n k4 g2
      have lpn := @len_pz none oa P
      unfold c2
      refine br_t hu.1.2.1 (s_qSees (hB.fq hu.1.1) gw_an.1 gw_an.2 (RqM.good hu.self) (fun _ w v hv => br_f (by decide) ?_) (fun w v hv => br_t rfl ?_))
      · have w : isWd T n (skip T n k4) [97, 110, 100] := w
        have pg : ((if isWd T n (skip T n k4) [97, 110, 100] then qCnd T n (qTst T n F m) d (skip T n k4 + 3) oa (some (skip T n k4)) Q4 else qBd (qAt 7 oa (-1, skip T n k4, Q4)) (fun k Q => if isWd T n (skip T n k) [111, 114] then qCnd T n (qTst T n F m) d (skip T n k + 2) (some (skip T n k)) none Q else (-1, skip T n k, Q)))).1 = -1 → _ := pg
        have pb : ¬ ((if isWd T n (skip T n k4) [97, 110, 100] then qCnd T n (qTst T n F m) d (skip T n k4 + 3) oa (some (skip T n k4)) Q4 else qBd (qAt 7 oa (-1, skip T n k4, Q4)) (fun k Q => if isWd T n (skip T n k) [111, 114] then qCnd T n (qTst T n F m) d (skip T n k + 2) (some (skip T n k)) none Q else (-1, skip T n k, Q)))).1 = -1 → _ := pb
        simp only [if_pos w] at pg pb
        have w2 := isWd_le sl w
        have hv2 : RpM n s x (-1, skip T n k4, Q4) (pz none oa P) v := hu.up hv
        have cv := hv2.gd rfl
        rw [show fI v 0 16 = nI (skip T n k4) from cv.1.2.2.1]
        refine s_qPush hB (by omega) hv2.1 hv2.2.1 hv2.2.2.2 (fun a ha a139 a140 aR a16 => nm_r (e' := setI a 0 16 (nI (skip T n k4 + 3))) ?_ ⟨n + 2, ?_⟩)
        · rw [a16, show fI v 0 16 = nI (skip T n k4) from cv.1.2.2.1, show (3 : Int32) = nI 3 from rfl, nI_add]
        · refine ih (skip T n k4 + 3) oa (some (skip T n k4)) Q4 P _ N' (n + 2) _ (by omega) hbd (fun p e => by injection e with e; omega) hoa hlen hop (by omega) (by omega) ⟨(ha.gd rfl).k (show skip T n k4 ≤ _ by omega) w2, a139, ?_, aR⟩ (fun z q => q) pg pb
          show fI a 0 140 = _
          rw [a140, hv2.2.2.1, opn_pz, opn_pz]
      · have w : ¬ ((-1 : Int32) = -1 ∧ isWd T n (skip T n k4) [97, 110, 100]) := w
        have w : ¬ isWd T n (skip T n k4) [97, 110, 100] := fun q => w ⟨rfl, q⟩
        simp only [if_neg w] at pg pb
        have hv2 : RpM n s x (-1, skip T n k4, Q4) (pz none oa P) v := hu.up hv
        cases oa with
        | none =>
          have pg : (qBd (-1, skip T n k4, Q4) (fun k Q => if isWd T n (skip T n k) [111, 114] then qCnd T n (qTst T n F m) d (skip T n k + 2) (some (skip T n k)) none Q else (-1, skip T n k, Q))).1 = -1 → _ := pg
          have pb : ¬ (qBd (-1, skip T n k4, Q4) (fun k Q => if isWd T n (skip T n k) [111, 114] then qCnd T n (qTst T n F m) d (skip T n k + 2) (some (skip T n k)) none Q else (-1, skip T n k, Q))).1 = -1 → _ := pb
          exact ⟨1, s_jNo hB (show P.length ≤ 100 by omega) hv2 (Or.inr (fun p P0 e => by rw [hbd p P0 e]; decide)) (cB (skip T n k4) Q4 v (by omega) sl (hv2.gd rfl) pg pb) 0⟩
        | some p =>
          have hp := hoa p rfl
          refine ⟨2, s_jYes hB hp (show P.length < 100 by omega) (hv2.gd rfl) (Or.inr (Or.inr rfl)) (fun c v2 hv3 => ?_) 0 (fun c v2 hv3 => ?_)⟩
          · have c : ¬ (qAt 7 (some p) (-1, skip T n k4, Q4)).1 = -1 := c
            rw [qBd_b c] at pb
            unfold c3
            refine br_f (by rw [hv3.1.e]; exact c) (pb c v2 (hv3.1.ft c))
          · have c : (qAt 7 (some p) (-1, skip T n k4, Q4)).1 = -1 := c
            obtain ⟨-, e⟩ := qAdd_q (by omega) c
            have e : qAt 7 (some p) (-1, skip T n k4, Q4) = (-1, skip T n k4, (Q4.1, Q4.2.1, Q4.2.2.1 ++ [(7, -1, -1, -1, 0)], Q4.2.2.2)) := e
            have hv3 : RpM n s x (qAt 7 (some p) (-1, skip T n k4, Q4)) P v2 := hv3
            rw [e, qBd_g rfl] at pg pb
            rw [e] at hv3
            exact s_jNo hB (show P.length ≤ 100 by omega) hv3 (Or.inr (fun p P0 e => by rw [hbd p P0 e]; decide)) (cB (skip T n k4) _ v2 (by omega) sl (hv3.gd rfl) pg pb) 0
    obtain ⟨j, rfl⟩ : ∃ j, i = j + 1 := ⟨i - 1, by omega⟩
    refine s_jNo hB (show (pz aa oa P).length ≤ 100 by omega) hz.rc (Or.inr ?_) ?_ j
    · intro p P0 e
      cases aa with
      | some q => injection e with e1 e2; rw [← e1]; show ¬ (2 : Int32) = 1; decide
      | none =>
        cases oa with
        | some q => injection e with e1 e2; rw [← e1]; show ¬ (3 : Int32) = 1; decide
        | none => rw [hbd p P0 e]; decide
    · unfold c1
      have hop3 : ∀ p P0, pz none oa P = p :: P0 → p.1 ≠ 2 := by
        intro p P0 e
        cases oa with
        | some q => injection e with e1 e2; rw [← e1]; show ¬ (3 : Int32) = 2; decide
        | none => rw [hbd p P0 e]; decide
      have lpn := @len_pz none oa P
      cases aa with
      | none =>
        have e4 : qAt 6 none (qTst T n F m k Q) = (-1, k1, (qTst T n F m k Q).2.2) := by show qTst T n F m k Q = _; rw [e0]
        exact ⟨1, s_jNo hB (show (pz none oa P).length ≤ 100 by omega) hz.rc (Or.inr hop3) (cA k1 _ z e4 (Nat.le_refl _) k3 hz) 0⟩
      | some p =>
        have hp := haa p rfl
        have e5 : qAt 6 (some p) (qTst T n F m k Q) = qAdd p (6, -1, -1, -1, 0) (-1, k1, (qTst T n F m k Q).2.2) := by show qAdd p (6, -1, -1, -1, 0) (qTst T n F m k Q) = _; rw [e0]
        refine ⟨2, s_jYes hB hp (show (pz none oa P).length < 100 by omega) hz (Or.inr (Or.inl rfl)) (fun c v2 hv3 => ?_) 0 (fun c v2 hv3 => ?_)⟩
        · have c : ¬ (qAdd p (6, -1, -1, -1, 0) (-1, k1, (qTst T n F m k Q).2.2)).1 = -1 := c
          rw [e5, qBd_b c] at pb
          unfold c2
          exact br_f (by rw [hv3.1.e]; exact c) (pb c v2 (hv3.1.ft c))
        · have c : (qAdd p (6, -1, -1, -1, 0) (-1, k1, (qTst T n F m k Q).2.2)).1 = -1 := c
          obtain ⟨-, e⟩ := qAdd_q (by omega) c
          have hv3 : RpM n s x (qAdd p (6, -1, -1, -1, 0) (-1, k1, (qTst T n F m k Q).2.2)) (pz none oa P) v2 := hv3
          rw [e] at hv3 e5
          exact s_jNo hB (show (pz none oa P).length ≤ 100 by omega) hv3 (Or.inr hop3) (cA k1 _ v2 e5 (Nat.le_refl _) k3 (hv3.gd rfl)) 0
theorem qAsk_skip {k : Nat} {Q : Qy} : qAsk T n F (skip T n k) Q = qAsk T n F k Q := by unfold qAsk; rw [qCol_skip, skip_skip]
theorem opn_not {q : Nat} {P : Pil} {w : Int32} (h : w = 0 ∨ w = 1) : opn ((w, q) :: P) = opn P + 1 := by
  show (if w = 0 ∨ w = 1 then 1 else 0) + opn P = _
  rw [if_pos h]
  omega
theorem tst_ok (hB : BsM x T n F s) : ∀ m, okTst x T n F s post m := by
  have t2 := hB.2.1
  intro m
  induction m with
  | zero =>
    intro k Q P y N M P' hop hlen hN hM hC hP pg pb
    have hk := hC.1.2.2.2.1
    have sl := @skip_le T n k hk
    have sg := skip_ge T n k
    obtain ⟨M', rfl⟩ : ∃ j, M = j + 2 := ⟨M - 2, by omega⟩
    obtain ⟨N', rfl⟩ : ∃ j, N = j + 1 := ⟨N - 1, by omega⟩
    have hBy := hB.fq hC.1.1
    have fin : ∀ z, RpM n s x (qTst T n F 0 k Q) P z → P' z := by
      intro z hz
      by_cases c : (qTst T n F 0 k Q).1 = -1
      · refine hP z ?_
        show j_Mod_readCondition_14 post _ z
        rw [j14_eq]
        refine bn_t (by rw [hz.1.e]; exact c) ⟨P.length + 1, pg c z N' ?_ (hz.gd c) _ (by omega)⟩
        have := qTst_w (T := T) hB.2.2.2.1 (by omega) 0 k Q hk c
        obtain ⟨k1, E0, L0, e0, k2, -⟩ := this
        rw [e0]
        show n + 1 ≤ k1 + N'
        omega
      · exact hP z (c14_b c (hz.1.ft c) (pb c z (hz.1.ft c)) _)
    show j_Mod_readTest_0 P' (wl_Mod_readTest_0 P' (M' + 1)) y
    unfold j_Mod_readTest_0
    refine bn_t hC.1.2.1 (s_qBlanks hBy (RqM.good hC.self) (fun z hz => ?_))
    have gz : GdM False n s y z (skip T n k) Q := hz.gd rfl
    refine nm_r gz.2.2.1 ?_
    have ne : ¬ nI (skip T n k) = -1 := nI_nm1 (by omega)
    have go : ∀ (w : Int32) (k2 : Nat) (u : St), (w = 0 ∨ w = 1) → (isWd T n (skip T n k) [110, 111, 116] ∨ skip T n k < n ∧ T (skip T n k) = 40) → RqM False n s y (-1, k2, Q) u → j_Mod_readTest_45 P' (wl_Mod_readTest_0 P' (M' + 1)) (nI (skip T n k)) w u := by
      intro w k2 u hw hc hu
      unfold qTst at pb
      rw [if_pos hc] at pb
      have hu2 := hC.up hu
      unfold j_Mod_readTest_45
      refine bn_f (by rcases hw with e | e <;> rw [e] <;> decide) ?_
      rw [hu2.2.2.1, show opn P = 32 by omega]
      refine bn_t rfl (s_qFail hBy (by omega) hu (fun v hv => ?_))
      have hv : RqM False n s y (nI (skip T n k), k2, Q) v := hv
      have hv2 := hC.up hv
      unfold j_Mod_readTest_71
      refine nm_r (e' := setI v 0 140 (nI (opn P + 1))) (by rw [hv2.2.2.1, nI_1]) ?_
      have hu3 : RqM True n s x (nI (skip T n k), k2, Q) (setI v 0 140 (nI (opn P + 1))) := by
        have g := hv2.1.ft ne
        exact FfM.rs ⟨g.1.trans (FqM.i (Or.inr (Or.inr (Or.inr ⟨trivial, Or.inr rfl⟩)))), g.2⟩ ne
      refine s_qPush hB (by omega) hu3 hv2.2.1 hv2.2.2.2 (fun a ha _ _ _ _ => ?_)
      show j_Mod_readTest_0 P' _ a
      unfold j_Mod_readTest_0
      refine bn_f (by rw [ha.e]; exact ne) (hP a (c14_b ne (ha.ft ne) (pb ne a (ha.ft ne)) _))
    refine s_qWord hBy gw_no.1 gw_no.2 hz (fun _ c u hu => br_f (by decide) ?_) (fun c u hu => br_t rfl ?_)
    · have c : isWd T n (skip T n (skip T n k)) [110, 111, 116] := c
      rw [skip_skip] at c
      exact go 1 _ u (Or.inr rfl) (Or.inl c) hu
    · have c : ¬ ((-1 : Int32) = -1 ∧ isWd T n (skip T n (skip T n k)) [110, 111, 116]) := c
      have hu : RqM False n s y (-1, skip T n (skip T n k), Q) u := hu
      rw [skip_skip] at c hu
      have c : ¬ isWd T n (skip T n k) [110, 111, 116] := fun q => c ⟨rfl, q⟩
      refine s_qSign hBy (by decide) hu (fun _ c2 c3 v hv => br_f (by decide) ?_) (fun c2 v hv => br_t rfl ?_)
      · have c2 : skip T n (skip T n k) < n := c2
        have c3 : T (skip T n (skip T n k)) = 40 := c3
        rw [skip_skip] at c2 c3
        exact go 0 _ v (Or.inl rfl) (Or.inr ⟨c2, c3⟩) hv
      · have c2 : ¬ ((-1 : Int32) = -1 ∧ skip T n (skip T n k) < n ∧ T (skip T n (skip T n k)) = 40) := c2
        have hv : RqM False n s y (-1, skip T n (skip T n k), Q) v := hv
        rw [skip_skip] at c2 hv
        have c2 : ¬ (skip T n k < n ∧ T (skip T n k) = 40) := fun q => c2 ⟨rfl, q⟩
        have eT : qTst T n F 0 k Q = qAsk T n F (skip T n k) Q := by
          rw [qAsk_skip]
          show (if _ then _ else _) = _
          rw [if_neg (fun q => q.elim c c2)]
        unfold j_Mod_readTest_45
        refine bn_t rfl ?_
        have key := s_qAsk hBy (post := fun z => P' z) (hv.gd rfl) (fun a ha => fin a (by rw [eT]; exact hC.up ha))
        have key : wp_Mod_readAsked (fun z => P' z) (nI (skip T n (skip T n k))) v := key
        rw [skip_skip] at key
        exact key
  | succ m ih =>
    intro k Q P y N M P' hop hlen hN hM hC hP pg pb
    have hk := hC.1.2.2.2.1
    have sl := @skip_le T n k hk
    have sg := skip_ge T n k
    obtain ⟨M', rfl⟩ : ∃ j, M = j + 1 := ⟨M - 1, by omega⟩
    obtain ⟨N', rfl⟩ : ∃ j, N = j + 1 := ⟨N - 1, by omega⟩
    have hBy := hB.fq hC.1.1
    have fin : ∀ z, RpM n s x (qTst T n F (m + 1) k Q) P z → P' z := by
      intro z hz
      by_cases c : (qTst T n F (m + 1) k Q).1 = -1
      · refine hP z ?_
        show j_Mod_readCondition_14 post _ z
        rw [j14_eq]
        refine bn_t (by rw [hz.1.e]; exact c) ⟨P.length + 1, pg c z N' ?_ (hz.gd c) _ (by omega)⟩
        have := qTst_w (T := T) hB.2.2.2.1 (by omega) (m + 1) k Q hk c
        obtain ⟨k1, E0, L0, e0, k2, -⟩ := this
        rw [e0]
        show n + 1 ≤ k1 + N'
        omega
      · exact hP z (c14_b c (hz.1.ft c) (pb c z (hz.1.ft c)) _)
    show j_Mod_readTest_0 P' (wl_Mod_readTest_0 P' M') y
    unfold j_Mod_readTest_0
    refine bn_t hC.1.2.1 (s_qBlanks hBy (RqM.good hC.self) (fun z hz => ?_))
    have gz : GdM False n s y z (skip T n k) Q := hz.gd rfl
    refine nm_r gz.2.2.1 ?_
    -- one more is open
    have go : ∀ (w : Int32) (k2 : Nat) (u : St), (w = 0 ∨ w = 1) → RqM False n s y (-1, k2, Q) u → (∀ a, CdM n s x a k2 Q ((w, skip T n k) :: P) → wl_Mod_readTest_0 P' M' a) → j_Mod_readTest_45 P' (wl_Mod_readTest_0 P' M') (nI (skip T n k)) w u := by
      intro w k2 u hw hu pa
      have hu2 := hC.up hu
      unfold j_Mod_readTest_45
      refine bn_f (by rcases hw with e | e <;> rw [e] <;> decide) ?_
      rw [hu2.2.2.1]
      refine bn_f (fun e => ?_) ?_
      · rw [show (32 : Int32) = nI 32 from rfl, nI_eq (by omega) (by decide)] at e
        omega
      · unfold j_Mod_readTest_71
        refine nm_r (e' := setI u 0 140 (nI (opn P + 1))) (by rw [hu2.2.2.1, nI_1]) ?_
        have hu3 : RqM True n s x (-1, k2, Q) (setI u 0 140 (nI (opn P + 1))) := by
          have g := hu2.1.gd rfl
          exact RqM.good ⟨g.1.trans (FqM.i (Or.inr (Or.inr (Or.inr ⟨trivial, Or.inr rfl⟩)))), g.2⟩
        refine s_qPush hB (by omega) hu3 hu2.2.1 hu2.2.2.2 (fun a ha a139 a140 aR a16 => pa a ⟨ha.gd rfl, a139, ?_, aR⟩)
        rw [a140, opn_not hw]
        rfl
    refine s_qWord hBy gw_no.1 gw_no.2 hz (fun _ c u hu => br_f (by decide) ?_) (fun c u hu => br_t rfl ?_)
    · have c : isWd T n (skip T n (skip T n k)) [110, 111, 116] := c
      have hu : RqM False n s y (-1, skip T n (skip T n k) + 3, Q) u := hu
      rw [skip_skip] at c hu
      have w2 := isWd_le sl c
      unfold qTst at pg pb
      rw [if_pos c] at pg pb
      refine go 1 _ u (Or.inr rfl) hu (fun a ha => ?_)
      refine ih (skip T n k + 3) Q ((1, skip T n k) :: P) a (N' + 1) M' P' (by rw [opn_not (Or.inr rfl)]; omega) (by rw [opn_not (Or.inr rfl)]; show P.length + 1 ≤ _; omega) (by omega) (by omega) ha hP (fun cq z2 N2 hN2 hz2 i hi => ?_) (fun cq z2 hz2 => ?_)
      · have hi : P.length + 1 < i := hi
        obtain ⟨j, rfl⟩ : ∃ j, i = j + 2 := ⟨i - 2, by omega⟩
        have eT : qTst T n F m (skip T n k + 3) Q = (-1, (qTst T n F m (skip T n k + 3) Q).2.1, (qTst T n F m (skip T n k + 3) Q).2.2) := by rw [← cq]
        refine s_jYes hB sl (by omega) hz2 (Or.inl rfl) (fun c3 v hv => ?_) j (fun c3 v hv => ?_)
        · have c3 : ¬ (qAdd (skip T n k) (5, -1, -1, -1, 0) (-1, (qTst T n F m (skip T n k + 3) Q).2.1, (qTst T n F m (skip T n k + 3) Q).2.2)).1 = -1 := c3
          have hv : RpM n s x (qAdd (skip T n k) (5, -1, -1, -1, 0) (-1, (qTst T n F m (skip T n k + 3) Q).2.1, (qTst T n F m (skip T n k + 3) Q).2.2)) P v := hv
          rw [← eT] at c3 hv
          unfold c1
          refine ⟨1, s_jNo hB (by omega) hv (Or.inl c3) ?_ 0⟩
          unfold c2
          exact br_f (by rw [hv.1.e]; exact c3) (pb c3 v (hv.1.ft c3))
        · have c3 : (qAdd (skip T n k) (5, -1, -1, -1, 0) (-1, (qTst T n F m (skip T n k + 3) Q).2.1, (qTst T n F m (skip T n k + 3) Q).2.2)).1 = -1 := c3
          have hv : RpM n s x (qAdd (skip T n k) (5, -1, -1, -1, 0) (-1, (qTst T n F m (skip T n k + 3) Q).2.1, (qTst T n F m (skip T n k + 3) Q).2.2)) P v := hv
          have e2 := (qAdd_q (by omega) c3).2
          have p1 : (qAdd (skip T n k) (5, -1, -1, -1, 0) (-1, (qTst T n F m (skip T n k + 3) Q).2.1, (qTst T n F m (skip T n k + 3) Q).2.2)).2.1 = (qTst T n F m (skip T n k + 3) Q).2.1 := by rw [e2]
          rw [← eT] at c3 hv p1
          exact pg c3 v N2 (by rw [p1]; exact hN2) (hv.gd c3) (j + 1) (by omega)
      · rw [qAdd_b cq] at pb
        exact pb cq z2 hz2
    · have c : ¬ ((-1 : Int32) = -1 ∧ isWd T n (skip T n (skip T n k)) [110, 111, 116]) := c
      have hu : RqM False n s y (-1, skip T n (skip T n k), Q) u := hu
      rw [skip_skip] at c hu
      have c : ¬ isWd T n (skip T n k) [110, 111, 116] := fun q => c ⟨rfl, q⟩
      refine s_qSign hBy (by decide) hu (fun _ c2 c3 v hv => br_f (by decide) ?_) (fun c2 v hv => br_t rfl ?_)
      · have c2 : skip T n (skip T n k) < n := c2
        have c3 : T (skip T n (skip T n k)) = 40 := c3
        have hv : RqM False n s y (-1, skip T n (skip T n k) + 1, Q) v := hv
        rw [skip_skip] at c2 c3 hv
        unfold qTst at pg pb
        rw [if_neg c, if_pos ⟨c2, c3⟩] at pg pb
        refine go 0 _ v (Or.inl rfl) hv (fun a ha => ?_)
        refine cnd_ok hB ih (n + 1) (skip T n k + 1) none none Q ((0, skip T n k) :: P) a (N' + 1) M' P' (by omega) (fun p P0 e => by injection e with e1 e2; rw [← e1]) (fun p e => nomatch e) (fun p e => nomatch e) (by rw [opn_not (Or.inl rfl)]; show P.length + 1 ≤ _; omega) (by rw [opn_not (Or.inl rfl)]; omega) (by omega) (by omega) ha hP (fun c4 z2 N2 hN2 hz2 => ?_) (fun c4 z2 hz2 => ?_)
        · have kc := hz2.1.2.2.2.1
          generalize er : qCnd T n (qTst T n F m) (n + 1) (skip T n k + 1) none none Q = r0 at *
          obtain ⟨N3, rfl⟩ : ∃ j, N2 = j + 1 := ⟨N2 - 1, by omega⟩
          unfold cE
          have h139 : fI z2 0 139 = nI (P.length + 1) := hz2.2.1
          rw [h139]
          refine bn_f (by (first | omega | (simp (disch := omega) only [Int32.le_iff_toInt_le, Int32.lt_iff_toInt_lt, z_eq, z_in, nI_toInt, z_cl, z_m1, z_sg, z_255, Int32.reduceToInt] <;> omega) | (simp only [Int32.le_iff_toInt_le, Int32.lt_iff_toInt_lt, z_eq, z_in, z_add, z_sub, z_mul, z_neg, z_nI, z_cl, z_sg, z_255, z_lit, Int32.reduceToInt] <;> omega))) (s_qWant (hB.fq hz2.1.1) (by decide) (RqM.good hz2.self) (fun v2 hv2 => ?_))
          have e0 : ((-1 : Int32), r0.2.1, r0.2.2) = r0 := by rw [← c4]
          rw [e0] at hv2
          have hv3 := hz2.up hv2
          have v139 : fI v2 0 139 = nI (P.length + 1) := hv3.2.1
          have v140 : fI v2 0 140 = nI (opn P + 1) := by rw [hv3.2.2.1, opn_not (Or.inl rfl)]
          refine nm_r (e' := setI v2 0 139 (nI P.length)) (by rw [v139, show (1 : Int32) = nI 1 from rfl, nI_sub (by omega), Nat.add_sub_cancel]) (nm_r (e' := setI (setI v2 0 139 (nI P.length)) 0 140 (nI (opn P))) (by rw [show fI (setI v2 0 139 (nI P.length)) 0 140 = nI (opn P + 1) from v140, show (1 : Int32) = nI 1 from rfl, nI_sub (by omega), Nat.add_sub_cancel]) ?_)
          have f : FqM True s v2 (setI (setI v2 0 139 (nI P.length)) 0 140 (nI (opn P))) := (FqM.i (Or.inr (Or.inr (Or.inr ⟨trivial, Or.inl rfl⟩)))).trans (FqM.i (Or.inr (Or.inr (Or.inr ⟨trivial, Or.inr rfl⟩))))
          by_cases c5 : (qSgn T n 41 r0).1 = -1
          · have g := hv3.1.gd c5
            show j_Mod_readCondition_14 post _ _
            rw [j14_eq]
            refine bn_t g.2.1 ⟨P.length + 1, pg c5 _ N3 ?_ ⟨⟨g.1.trans f, g.2⟩, rfl, rfl, hv3.2.2.2.2.2⟩ _ (by omega)⟩
            obtain ⟨-, e6, -⟩ := qSgn_q c5 (by omega) kc
            rw [e6]
            have := skip_ge T n r0.2.1
            show n + 1 ≤ skip T n r0.2.1 + 1 + N3
            omega
          · have g := hv3.1.ft c5
            have g2 : FfM True s x (setI (setI v2 0 139 (nI P.length)) 0 140 (nI (opn P))) (qSgn T n 41 r0).1 := ⟨g.1.trans f, g.2⟩
            exact c14_b c5 g2 (pb c5 _ g2) _
        · rw [qSgn_b c4] at pb
          exact pb c4 z2 hz2
      · have c2 : ¬ ((-1 : Int32) = -1 ∧ skip T n (skip T n k) < n ∧ T (skip T n (skip T n k)) = 40) := c2
        have hv : RqM False n s y (-1, skip T n (skip T n k), Q) v := hv
        rw [skip_skip] at c2 hv
        have c2 : ¬ (skip T n k < n ∧ T (skip T n k) = 40) := fun q => c2 ⟨rfl, q⟩
        have eT : qTst T n F (m + 1) k Q = qAsk T n F (skip T n k) Q := by
          rw [qAsk_skip]
          show (if _ then _ else _) = _
          rw [if_neg c, if_neg c2]
        unfold j_Mod_readTest_45
        refine bn_t rfl ?_
        have key := s_qAsk hBy (post := fun z => P' z) (hv.gd rfl) (fun a ha => fin a (by rw [eT]; exact hC.up ha))
        have key : wp_Mod_readAsked (fun z => P' z) (nI (skip T n (skip T n k))) v := key
        rw [skip_skip] at key
        exact key
end
