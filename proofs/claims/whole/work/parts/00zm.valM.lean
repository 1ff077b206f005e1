/-! the model reads values -/
/-- a record is read at k, L being the nodes so far, s bytes said -/
def RsM (x : St) (T : Nat → Int32) (n : Nat) (F : List SFd) (k : Nat) (L : List SNd) (s : Nat) : Prop := TxM x T n ∧ LM x ∧ RepM x 0 F ∧ WfS F ∧ fI x 0 16 = nI k ∧ fI x 0 17 = -1 ∧ NdM x L s ∧ k ≤ n ∧ n ≤ 4000 ∧ L.length ≤ k + 1 ∧ s ≤ k
/-- what reading comes to -/
def outR (x y : St) (T : Nat → Int32) (n : Nat) (F : List SFd) (k : Nat) (r : Int32 × Nat × List SNd) : Prop := FrR x y ∧ ((r.1 = -1 ∧ k < r.2.1 ∧ r.2.2.length + 1 ≤ r.2.1 ∧ ∃ s, RsM y T n F r.2.1 r.2.2 s) ∨ (r.1 ≠ -1 ∧ fI y 0 17 = r.1 ∧ ∃ j, j ≤ 4100 ∧ fI y 0 16 = nI j))
theorem NdM.i {x : St} {L : List SNd} {s k : Nat} {v : Int32} (h : NdM x L s) (h1 : k ≠ 24) (h2 : k ≠ 25) : NdM (setI x 0 k v) L s := by
  obtain ⟨a1, a2, a3, a4⟩ := h
  exact ⟨by rw [gI_ne (Ne.symm h1)]; exact a1, a2, by rw [gI_ne (Ne.symm h2)]; exact a3, a4⟩
theorem RsM.go {x : St} {T : Nat → Int32} {n k k' s : Nat} {F : List SFd} {L : List SNd} (h : RsM x T n F k L s) (h1 : k ≤ k') (h2 : k' ≤ n) : RsM (setI x 0 16 (nI k')) T n F k' L s := by
  obtain ⟨a1, a2, a3, a4, a5, a6, a7, a8, a9, a10, a11⟩ := h
  exact ⟨a1.I (by decide), a2, a3, a4, rfl, a6, a7.i (by decide) (by decide), h2, a9, by omega, by omega⟩
theorem gw_tr : goodW [116, 114, 117, 101] ∧ (1953658213 : Int64) = lN (bW [116, 114, 117, 101]) := by unfold goodW; decide +kernel
theorem gw_fa : goodW [102, 97, 108, 115, 101] ∧ (439721161573 : Int64) = lN (bW [102, 97, 108, 115, 101]) := by unfold goodW; decide +kernel
/-- a group or the record itself -/
def gIs (F : List SFd) (g : Int32) : Prop := g = -1 ∨ ∃ f, f < F.length ∧ g = nI f ∧ fTy F f = 4
def okG (T : Nat → Int32) (n : Nat) (F : List SFd) (D : Nat) (SG : (St → Prop) → Int32 → Int32 → St → Prop) : Prop := ∀ (post : St → Prop) (x : St) (k p : Nat) (g : Int32) (L : List SNd) (s : Nat), RsM x T n F k L s → gIs F g → 18 ≤ D + upS wOne (fPa F) g → (∀ y, outR x y T n F k (pGrp T n F D k g p L) → post y) → SG post (nI p) g x
theorem s_value {T : Nat → Int32} {n D : Nat} {F : List SFd} {SG SR SV : (St → Prop) → Int32 → Int32 → St → Prop} (hG : okG T n F D SG) {post : St → Prop} {x : St} {k p f s : Nat} {L : List SNd} (h : RsM x T n F k L s) (hf : f < F.length) (hb : L.length + 1 ≤ k) (hd : fTy F f = 4 → 18 ≤ D + upS wOne (fPa F) (nI f))
    (q : ∀ y, outR x y T n F k (pVal T n F (pGrp T n F D) k p f L) → post y) : wb_Mod_readValue post SG SR SV (nI p) (nI f) x := by
  have hs := @skip_le T n k h.2.2.2.2.2.2.2.1
  have hg := skip_ge T n k
  have hx := h.go hg hs
  have fx : FrR x (setI x 0 16 (nI (skip T n k))) := FrR.i (by decide)
  have h9 := h.2.2.2.2.2.2.2.2.1
  unfold wb_Mod_readValue
  refine s_blanks h.1 h.2.2.2.2.1 (by omega) ?_
  unfold pVal at q
  generalize hS : skip T n k = k1 at *
  generalize hX : setI x 0 16 (nI k1) = X at *
  obtain ⟨a1, a2, a3, a4, a5, a6, a7, a8, a9, a10, a11⟩ := hx
  have hF := a4.1
  unfold wp_Mod_place
  dsimp only
  rw [show (128 : Int32) * 0 + nI f = nI f by rw [Int32.mul_zero, Int32.zero_add], a2 4, rA_nI (by omega)]
  refine ⟨vp_in_nI (by show _ < 384; omega) (by decide), nm_r (e' := fTy F f) (by have := (a3.2.2.1 f hf).2.1; rw [show 128 * 0 + f = f by omega] at this; exact this) (br_t a6 ?_)⟩
  have hl : ∀ z : SNd, (L ++ [z]).length = L.length + 1 := fun z => by rw [List.length_append]; rfl
  by_cases c4 : fTy F f = 4
  · rw [if_pos c4] at q
    refine bn_t c4 (s_node a2 a7 (by omega) (by omega) (fun y y1 y2 y3 y4 y5 y6 => ?_))
    refine hG _ y k1 L.length (nI f) (L ++ [(nI p, nI f, 0, [])]) s ⟨a1.r y1, a2.r y1, a3.r y1, a4, y2.trans a5, y3.trans a6, y5, a8, a9, by rw [hl]; omega, a11⟩ (Or.inr ⟨f, hf, rfl, c4⟩) (hd c4) (fun z o => q z ⟨(fx.trans y1).trans o.1, ?_⟩)
    rcases o.2 with ⟨o1, o2, o3⟩ | o2
    · exact Or.inl ⟨o1, by omega, o3⟩
    · exact Or.inr o2
  rw [if_neg c4] at q
  refine bn_f c4 ?_
  by_cases c3 : fTy F f = 3
  · rw [if_pos c3] at q
    refine bn_t c3 (s_node a2 a7 (by omega) (by omega) (fun y y1 y2 y3 y4 y5 y6 => ?_))
    have Ly := a2.r y1
    have hn15 : ∀ z : St, FrR y z → vp_in (nI L.length) (fN z 14) ∧ vp_in (nI L.length) (fN z 15) := by
      intro z fz
      rw [(Ly.r fz) 14, (Ly.r fz) 15]
      exact ⟨vp_in_nI (by show _ < 4100; omega) (by decide), vp_in_nI (by show _ < 4100; omega) (by decide)⟩
    refine s_readText (s := s) Ly (a1.r y1) (y2.trans a5) a8 (y3.trans a6) y5.2.2.1 (by omega) (fun c => ?_) (fun b1 b2 b3 z z1 z2 z3 z4 z5 z6 => ?_) (fun b1 b2 b3 z j t z1 z2 z3 z4 z5 z6 z7 z8 => ?_)
    · rw [if_neg c] at q
      refine ⟨(hn15 _ (FrR.i (by decide))).1, (hn15 _ (FrR.i (by decide))).2, nm_e (q _ ⟨((fx.trans y1).trans (FrR.i (by decide))).trans (FrR.a (by decide)), Or.inr ⟨nI_nm1 (by omega), rfl, k1, by omega, ?_⟩⟩)⟩
      exact y2.trans a5
    · rw [if_pos ⟨b1, b2⟩, if_pos b3] at q
      refine ⟨(hn15 z z1.r).1, (hn15 z z1.r).2, nm_e (q _ ⟨((fx.trans y1).trans z1.r).trans (FrR.a (by decide)), Or.inl ⟨rfl, by show k < (qtO T n (k1 + 1) []).2.1; omega, by rw [hl]; show L.length + 1 + 1 ≤ (qtO T n (k1 + 1) []).2.1; omega, s + (qtO T n (k1 + 1) []).2.2.length, ?_⟩⟩)⟩
      generalize hB : (qtO T n (k1 + 1) []).2.2 = B at *
      generalize hK2 : (qtO T n (k1 + 1) []).2.1 = k2 at *
      obtain ⟨y51, y52, y53, y54⟩ := y5
      have r14 : fA z 14 = fA y 14 := z1.2.1 14 (by decide)
      have ev : fI z 0 25 - rA z 14 (nI L.length) = nI B.length := by
        rw [z4.1, rA_nI (by omega), r14, y6, nI_sub (by omega), show s + B.length - s = B.length by omega]
      rw [ev]
      have cl : (nI L.length).toNatClampNeg = L.length := nI_clamp (by omega)
      have fz : FrR y z := z1.r
      refine ⟨((a1.r y1).r fz).r (FrR.a (by decide)), ((a2.r y1).r fz).r (FrR.a (by decide)), ((a3.r y1).r fz).r (FrR.a (by decide)), a4, z3, z2, ⟨?_, ?_, ?_, fun i hi => ?_⟩, z5, a9, by rw [hl]; show L.length + 1 ≤ k2 + 1; omega, by show s + B.length ≤ k2; omega⟩
      · show fI z 0 24 = _
        rw [hl, show fI z 0 24 = fI y 0 24 from z1.1 0 24 (by simp), y51, hl]
      · rw [hl]; omega
      · exact z4.1
      · rw [hl] at hi
        have e12 : fA (setA z 15 (nI L.length) (nI B.length)) 12 = fA y 12 := by rw [gA_ne (by decide)]; exact z1.2.1 12 (by decide)
        have e13 : fA (setA z 15 (nI L.length) (nI B.length)) 13 = fA y 13 := by rw [gA_ne (by decide)]; exact z1.2.1 13 (by decide)
        have e14 : fA (setA z 15 (nI L.length) (nI B.length)) 14 = fA y 14 := by rw [gA_ne (by decide)]; exact r14
        have e15 : fA (setA z 15 (nI L.length) (nI B.length)) 15 = upd (fA y 15) L.length (nI B.length) := by rw [gA_at, cl, show fA z 15 = fA y 15 from z1.2.1 15 (by decide)]
        have e16 : fA (setA z 15 (nI L.length) (nI B.length)) 16 = fA z 16 := by rw [gA_ne (by decide)]
        have e17 : fL (setA z 15 (nI L.length) (nI B.length)) 17 = fL y 17 := by show z.2.2.2.2.1 17 = y.2.2.2.2.1 17; rw [z1.2.2.2.2]
        rw [e12, e13, e14, e15, e16, e17]
        obtain ⟨o1, o2, o3⟩ := y54 i (by rw [hl]; omega)
        by_cases c : i = L.length
        · subst c
          rw [ndNew] at o1 o2 o3 ⊢
          rw [upd_at]
          refine ⟨o1, o2, fun w => ⟨(o3 w).1, rfl, s, y6, Nat.le_refl _, fun j hj => z4.2.2 j hj⟩⟩
        · rw [ndApp (by omega)] at o1 o2 o3 ⊢
          rw [upd_ne c]
          refine ⟨o1, o2, fun w => ?_⟩
          obtain ⟨u1, u2, u3, u4, u5, u6⟩ := o3 w
          refine ⟨u1, u2, u3, u4, by omega, fun j hj => ?_⟩
          rw [z4.2.1 (u3 + j) (by omega)]
          exact u6 j hj
    · rw [if_pos ⟨b1, b2⟩, if_neg b3] at q
      refine ⟨(hn15 z z1.r).1, (hn15 z z1.r).2, nm_e (q _ ⟨((fx.trans y1).trans z1.r).trans (FrR.a (by decide)), Or.inr ⟨b3, z2, j, by omega, z3⟩⟩)⟩
  rw [if_neg c3] at q
  refine bn_f c3 ?_
  by_cases c0 : fTy F f = 0
  · rw [if_pos c0] at q
    refine bn_t c0 ?_
    have hss : skip T n k1 = k1 := by rw [← hS, skip_skip]
    have fin : ∀ (Y : St) (b : Int32) (k2 : Nat), FrR X Y → NdM Y L s → fI Y 0 16 = nI k2 → (fI Y 0 17 = -1 → k1 < k2 ∧ k2 ≤ n ∧ (if isWd T n k1 [116, 114, 117, 101] then ((-1 : Int32), k1 + 4, L ++ [(nI p, nI f, (1 : Int64), ([] : List Int32))]) else if isWd T n k1 [102, 97, 108, 115, 101] then (-1, k1 + 5, L ++ [(nI p, nI f, 0, [])]) else (nI k1, k1, L)) = (-1, k2, L ++ [(nI p, nI f, if b = 0 then 0 else 1, [])])) → (fI Y 0 17 ≠ -1 → k2 ≤ n ∧ (if isWd T n k1 [116, 114, 117, 101] then ((-1 : Int32), k1 + 4, L ++ [(nI p, nI f, (1 : Int64), ([] : List Int32))]) else if isWd T n k1 [102, 97, 108, 115, 101] then (-1, k1 + 5, L ++ [(nI p, nI f, 0, [])]) else (nI k1, k1, L)).1 = fI Y 0 17) → ∀ l3, j_Mod_readValue_120 post SG SR SV (nI p) (nI f) l3 b Y := by
      intro Y b k2 g1 g2 g3 g4 g5 l3
      unfold j_Mod_readValue_120 j_Mod_readValue_133
      have go : ∀ v : Int64, (v = if b = 0 then 0 else 1) → wp_Mod_node (fun _ x338 => post x338) (nI p) (nI f) v Y := by
        intro v hv
        refine s_node (a2.r g1) g2 (by omega) (by omega) (fun z z1 z2 z3 z4 z5 z6 => q z ⟨(fx.trans g1).trans z1, ?_⟩)
        by_cases ce : fI Y 0 17 = -1
        · obtain ⟨w1, w2, w3⟩ := g4 ce
          rw [w3, ← hv]
          exact Or.inl ⟨rfl, by show k < k2; omega, by rw [hl]; show L.length + 1 + 1 ≤ k2; omega, s, (a1.r g1).r z1, (a2.r g1).r z1, (a3.r g1).r z1, a4, z2.trans g3, z3.trans ce, z5, w2, a9, by rw [hl]; show L.length + 1 ≤ k2 + 1; omega, by show s ≤ k2; omega⟩
        · obtain ⟨w1, w2⟩ := g5 ce
          exact Or.inr ⟨by rw [w2]; exact ce, by rw [w2]; exact z3, k2, by omega, z2.trans g3⟩
      exact ⟨fun w => go 0 (by rw [if_pos w]), fun w => go 1 (by rw [if_neg w])⟩
    refine s_takesWord a1 a5 a8 gw_tr.1 gw_tr.2 (fun _ w => ?_) (fun w0 => ?_)
    · rw [hss] at w ⊢
      have we := wd_end w a8
      have we : k1 + 4 ≤ n := we
      exact bn_f (by decide) (fin (setI X 0 16 (nI (k1 + 4))) 1 (k1 + 4) (FrR.i (by decide)) (a7.i (by decide) (by decide)) rfl (fun _ => ⟨by omega, we, by rw [if_pos w]; rfl⟩) (fun z => absurd a6 z) _)
    · rw [hss] at w0 ⊢
      have w0 : ¬ isWd T n k1 [116, 114, 117, 101] := fun z => w0 ⟨a6, z⟩
      refine bn_t rfl (s_takesWord (a1.I (by decide)) rfl a8 gw_fa.1 gw_fa.2 (fun _ w => ?_) (fun w1 => ?_))
      · rw [hss] at w ⊢
        have we := wd_end w a8
        have we : k1 + 5 ≤ n := we
        rw [setI_setI]
        exact bn_f (by decide) (fin (setI X 0 16 (nI (k1 + 5))) 0 (k1 + 5) (FrR.i (by decide)) (a7.i (by decide) (by decide)) rfl (fun _ => ⟨by omega, we, by rw [if_neg w0, if_pos w]; rfl⟩) (fun z => absurd a6 z) _)
      · rw [hss] at w1 ⊢
        have w1 : ¬ isWd T n k1 [102, 97, 108, 115, 101] := fun z => w1 ⟨a6, z⟩
        rw [setI_setI]
        refine bn_t rfl (s_fail ?_)
        have nn : ¬ nI k1 = -1 := nI_nm1 (by omega)
        rw [if_pos (show fI (setI X 0 16 (nI k1)) 0 17 = -1 from a6)]
        exact fin (setI (setI X 0 16 (nI k1)) 0 17 (nI k1)) 0 k1 ((FrR.i (by decide)).trans (FrR.i (by decide))) ((a7.i (by decide) (by decide)).i (by decide) (by decide)) rfl (fun z => absurd z nn) (fun _ => ⟨a8, by rw [if_neg w0, if_neg w1]; rfl⟩) _
  rw [if_neg c0] at q
  refine bn_f c0 (nm_r (e' := nI k1) a5 (s_readNumber a1 a5 a8 a6 (fun k2 v ok => ?_) (fun k2 e v er => ?_)))
  · have hk2 := nmOk_k a8 ok
    have e := nmF_ok ok
    rw [e, if_pos rfl] at q
    have num : ∀ Y : St, FrR X Y → NdM Y L s → fI Y 0 17 = -1 ∨ (fI Y 0 17 = nI k1 ∧ fTy F f = 1 ∧ ¬ v = v.toInt32.toInt64) → fI Y 0 16 = nI k2 → (fI Y 0 17 = -1 → ¬ (fTy F f = 1 ∧ ¬ v = v.toInt32.toInt64)) → ∀ l4, j_Mod_readValue_173 post SG SR SV (nI p) (nI f) (fTy F f) l4 v Y := by
      intro Y g1 g2 g3 g4 g5 l4
      unfold j_Mod_readValue_173
      refine s_node (a2.r g1) g2 (by omega) (by omega) (fun z z1 z2 z3 z4 z5 z6 => q z ⟨(fx.trans g1).trans z1, ?_⟩)
      have nn : ¬ nI k1 = -1 := nI_nm1 (by omega)
      rcases g3 with w | ⟨w1, w2, w3⟩
      · rw [if_neg (g5 w)]
        exact Or.inl ⟨rfl, by show k < k2; omega, by rw [hl]; show L.length + 1 + 1 ≤ k2; omega, s, (a1.r g1).r z1, (a2.r g1).r z1, (a3.r g1).r z1, a4, z2.trans g4, z3.trans w, z5, hk2.2, a9, by rw [hl]; show L.length + 1 ≤ k2 + 1; omega, by show s ≤ k2; omega⟩
      · rw [if_pos ⟨w2, w3⟩]
        exact Or.inr ⟨nn, z3.trans w1, k2, by omega, z2.trans g4⟩
    refine ⟨fun w => num (setI X 0 16 (nI k2)) (FrR.i (by decide)) (a7.i (by decide) (by decide)) (Or.inl a6) rfl (fun _ z => w z.1) _, fun w => ⟨fun u => num (setI X 0 16 (nI k2)) (FrR.i (by decide)) (a7.i (by decide) (by decide)) (Or.inl a6) rfl (fun _ z => z.2 ((lg_cmp_eq _ _).mp u)) _, fun u => s_fail ?_⟩⟩
    rw [if_pos (show fI (setI X 0 16 (nI k2)) 0 17 = -1 from a6)]
    have nn : ¬ nI k1 = -1 := nI_nm1 (by omega)
    exact num (setI (setI X 0 16 (nI k2)) 0 17 (nI k1)) ((FrR.i (by decide)).trans (FrR.i (by decide))) ((a7.i (by decide) (by decide)).i (by decide) (by decide)) (Or.inr ⟨rfl, w, fun z => u ((lg_cmp_eq _ _).mpr z)⟩) rfl (fun z => absurd z nn) _
  · have he := nmEr_e a8 er
    obtain ⟨e1, e2⟩ := nmF_er er
    have nn : ¬ nI e = -1 := nI_nm1 (by omega)
    rw [e1, if_neg nn] at q
    have num : ∀ Y : St, FrR X Y → NdM Y L s → fI Y 0 17 = nI e → fI Y 0 16 = nI k2 → ∀ l4, j_Mod_readValue_173 post SG SR SV (nI p) (nI f) (fTy F f) l4 v Y := by
      intro Y g1 g2 g3 g4 l4
      unfold j_Mod_readValue_173
      exact s_node (a2.r g1) g2 (by omega) (by omega) (fun z z1 z2 z3 z4 z5 z6 => q z ⟨(fx.trans g1).trans z1, Or.inr ⟨nn, z3.trans g3, k2, by omega, z2.trans g4⟩⟩)
    have base := num _ ((FrR.i (k := 16) (v := nI k2) (x := X) (by decide)).trans (FrR.i (k := 17) (v := nI e) (by decide))) ((a7.i (by decide) (by decide)).i (by decide) (by decide)) rfl rfl
    refine ⟨fun w => base _, fun w => ⟨fun u => base _, fun u => s_fail ?_⟩⟩
    rw [if_neg (show ¬ fI (setI (setI X 0 16 (nI k2)) 0 17 (nI e)) 0 17 = -1 from nn)]
    exact base _
