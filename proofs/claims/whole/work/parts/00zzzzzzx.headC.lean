/-! the Opener reads the head of a page -/
abbrev HdT : Type := Nat × Nat × Nat × PV × PV × Nat
/-- the head of a page: how many entries, how many without a value, the coding, the least and the greatest, where it ends -/
def hdR3 (T : Nat → Nat) (n no how : Nat) (lh : PV × PV) (st p : Nat) : Rd HdT := match vrd T st p with
  | .error e => .error e
  | .ok (sz, q) => match fxd T 4 st q with
    | .error e => .error e
    | .ok (sum, q1) => if st < q1 + sz then .error 1 else if crcS (fun i => nI (T i)) q1 (q1 + sz) ≠ (lN sum).toInt32 then .error 8 else .ok ((n, no, how, lh.1, lh.2, q1 + sz), q1)
def hdR2 (T : Nat → Nat) (ty n no how st p : Nat) : Rd HdT := match lhR T ty no n st p with
  | .error e => .error e
  | .ok (lh, q) => hdR3 T n no how lh st q
def hdR1 (T : Nat → Nat) (ty n st p : Nat) : Rd HdT := match vrd T st p with
  | .error e => .error e
  | .ok (no, q) => if n < no then .error 7 else match fxd T 1 st q with
    | .error e => .error e
    | .ok (how, q1) => if nCod ty ≤ how then .error 7 else hdR2 T ty n no how st q1
def hdR (T : Nat → Nat) (ty st p : Nat) : Rd HdT := match vrd T st p with
  | .error e => .error e
  | .ok (n, q) => if n = 0 then .error 3 else if 1000 < n then .error 4 else hdR1 T ty n st q
theorem pgR_hd {T : Nat → Nat} {ty mr md st p : Nat} : pgR T ty mr md st p = match hdR T ty st p with
    | .error e => .error e
    | .ok ((n, no, how, lo, hi, en), q) => match bdR T ty mr md n (n - no) how lo hi en q with
      | .error e => .error e
      | .ok (d, _) => .ok ((how, d), en) := by
  unfold pgR hdR
  cases vrd T st p with
  | error e => rfl
  | ok v =>
    obtain ⟨n, q⟩ := v
    simp only
    by_cases c1 : n = 0
    · rw [if_pos c1, if_pos c1]
    rw [if_neg c1, if_neg c1]
    by_cases c2 : 1000 < n
    · rw [if_pos c2, if_pos c2]
    rw [if_neg c2, if_neg c2]
    unfold pgR1 hdR1
    cases vrd T st q with
    | error e => rfl
    | ok v =>
      obtain ⟨no, q⟩ := v
      simp only
      by_cases c3 : n < no
      · rw [if_pos c3, if_pos c3]
      rw [if_neg c3, if_neg c3]
      cases fxd T 1 st q with
      | error e => rfl
      | ok v =>
        obtain ⟨how, q⟩ := v
        simp only
        by_cases c4 : nCod ty ≤ how
        · rw [if_pos c4, if_pos c4]
        rw [if_neg c4, if_neg c4]
        unfold pgR2 hdR2
        cases lhR T ty no n st q with
        | error e => rfl
        | ok v =>
          obtain ⟨lh, q⟩ := v
          simp only
          unfold pgR3 hdR3
          cases vrd T st q with
          | error e => rfl
          | ok v =>
            obtain ⟨sz, q⟩ := v
            simp only
            cases fxd T 4 st q with
            | error e => rfl
            | ok v =>
              obtain ⟨sum, q⟩ := v
              simp only
              by_cases c5 : st < q + sz
              · rw [if_pos c5, if_pos c5]
              rw [if_neg c5, if_neg c5]
              by_cases c6 : crcS (fun i => nI (T i)) q (q + sz) ≠ (lN sum).toInt32
              · rw [if_pos c6, if_pos c6]
              rw [if_neg c6, if_neg c6]
              rfl
abbrev FrHd (x y : St) : Prop := Fg (fun a k => a = 104 ∧ (k = 1 ∨ k = 2 ∨ k = 3)) no2 no2 (fun a => a = 90 ∨ a = 91) (fun a => a = 92 ∨ a = 93) x y
section
variable {x y z : St} {T : Nat → Nat} {n st p b : Nat}
theorem FrSr.hd (f : FrSr 104 x y) : FrHd x y := f.mono (fun _ _ z => ⟨z.1, by omega⟩) (fun _ _ z => z) (fun _ _ z => z) (fun _ z => z.elim) (fun _ z => z.elim)
/-- what a head tells of a page is kept -/
def HdC (x y : St) (pg b ty : Nat) (h : HdT) : Prop := fA y 90 = upd (fA x 90) pg (nI h.1) ∧ fA y 91 = upd (fA x 91) pg (nI h.2.1) ∧ (∀ i, i ≠ pg → fL y 92 i = fL x 92 i ∧ fL y 93 i = fL x 93 i) ∧ (h.2.1 < h.1 → RfP y b ty (fL y 92 pg) h.2.2.2.1 ∧ RfP y b ty (fL y 93 pg) h.2.2.2.2.1)
theorem k_hd163 {post : Int32 → St → Prop} {pg m no how : Nat} {lh : PV × PV} {l1 : Int32} {ty : Nat} (S : Sr 104 x T n p st) (hpg : pg < 6000) (hm : m ≤ 1000) (hno : no ≤ m)
    (pe : ∀ e y, hdR3 T m no how lh st p = .error e → FrHd x y → FlC 104 y e → ∀ v, post v y)
    (pk : ∀ en q y, hdR3 T m no how lh st p = .ok ((m, no, how, lh.1, lh.2, en), q) → FrHd x y → Sr 104 y T n q en → en ≤ st → fA y 90 = upd (fA x 90) pg (nI m) → fA y 91 = upd (fA x 91) pg (nI no) → fL y 92 = fL x 92 → fL y 93 = fL x 93 → fA y 82 = fA x 82 → post (nI how) y) : j_Opn_readPageHead_163 post 96 l1 (nI pg) (lN m) (lN no) (nI how) x := by
  have hS := S.le
  have L90 : fN x 90 = 6000 := S.1.1 90 (by decide)
  have L91 : fN x 91 = 6000 := S.1.1 91 (by decide)
  have fall : ∀ e y l5 v8, hdR3 T m no how lh st p = .error e → FrHd x y → FlC 104 y e → wp_Src_narrow (fun (r10 : Int32) (x9 : St) => ((¬ (fI x9 (stC 96 2) 3) = 0 → j_Opn_readPageHead_269 post 96 l1 (nI pg) (lN m) (lN no) (nI how) l5 v8 x9) ∧ ((fI x9 (stC 96 2) 3) = 0 → wp_V_checkOf (fun (r13 : Int32) (x12 : St) => ((¬ v8 = r13 → j_Opn_readPageHead_241 post 96 l1 (nI pg) (lN m) (lN no) (nI how) l5 v8 0 (stC 96 2) x12) ∧ (v8 = r13 → j_Opn_readPageHead_241 post 96 l1 (nI pg) (lN m) (lN no) (nI how) l5 v8 1 (stC 96 2) x12))) (stC (stC 96 0) 6) (fI x9 (stC 96 2) 1) (fI x9 (stC 96 2) 2) x9))) (stC 96 2) l5 y := fun e y l5 v8 h1 h2 h3 => by
    unfold j_Opn_readPageHead_269
    exact k_narrow0 h3.ne (bn_f h3.ne (pe e y h1 h2 h3 _))
  unfold j_Opn_readPageHead_163
  rw [show stC 96 2 = 104 from rfl]
  refine r_vrd so4 S (fun e y y1 y2 y3 => ?_) (fun sz q y y1 y2 Sy v1 v2 => ?_)
  · exact k_fxd0 y3.ne (nm_e (fall e y _ _ (by unfold hdR3; rw [y1]) (FrSr.hd y2) y3))
  refine r_fxd (m := 4) so4 Sy (by decide) (fun e z z1 z2 z3 => ?_) (fun z z1 z2 Sz => ?_)
  · exact nm_e (fall e z _ _ (by unfold hdR3; rw [y1]; simp only; rw [z1]) (Fg.trans (FrSr.hd y2) (FrSr.hd z2)) z3)
  have er : hdR3 T m no how lh st p = (if st < q + 4 + sz then .error 1 else if crcS (fun i => nI (T i)) (q + 4) (q + 4 + sz) ≠ (lN (fxV T q 4)).toInt32 then .error 8 else .ok ((m, no, how, lh.1, lh.2, q + 4 + sz), q + 4)) := by unfold hdR3; rw [y1]; simp only; rw [z1]
  have fz : FrHd x z := Fg.trans (FrSr.hd y2) (FrSr.hd z2)
  have hSz := Sz.le
  refine nm_e ?_
  refine k_narrow v1 Sz.h0 Sz.hp Sz.hs hSz.1 (by omega) (fun c => ?_) (fun c => ?_)
  · have fl : FlC 104 (setI z 104 3 1) 1 := ⟨gI_at, by decide, by decide⟩
    unfold j_Opn_readPageHead_269
    exact bn_f fl.ne (pe 1 _ (by rw [er, if_pos c]) (Fg.trans fz (Fg.i ⟨rfl, by decide⟩)) fl _)
  rw [if_neg (by omega)] at er
  have fu : FrHd x (setI z 104 2 (nI (q + 4 + sz))) := Fg.trans fz (Fg.i ⟨rfl, by decide⟩)
  have Su : Sr 104 (setI z 104 2 (nI (q + 4 + sz))) T n (q + 4) (q + 4 + sz) := ⟨Fg.fic fu (by decide) S.1, (gI_ne (by decide)).trans Sz.h0, (gI_ne (by decide)).trans Sz.hp, gI_at, by omega, by omega⟩
  have u90 : fA (setI z 104 2 (nI (q + 4 + sz))) 90 = fA x 90 := (z2.aa id).trans (y2.aa id)
  have u91 : fA (setI z 104 2 (nI (q + 4 + sz))) 91 = fA x 91 := (z2.aa id).trans (y2.aa id)
  have u82 : fA (setI z 104 2 (nI (q + 4 + sz))) 82 = fA x 82 := (z2.aa id).trans (y2.aa id)
  have u92 : fL (setI z 104 2 (nI (q + 4 + sz))) 92 = fL x 92 := (z2.ll id).trans (y2.ll id)
  have u93 : fL (setI z 104 2 (nI (q + 4 + sz))) 93 = fL x 93 := (z2.ll id).trans (y2.ll id)
  generalize setI z 104 2 (nI (q + 4 + sz)) = u at *
  refine bn_t Su.h0 ?_
  rw [Su.hp, Su.hs, show stC (stC 96 0) 6 = 82 from rfl]
  have l82 : fN u 82 = 120255 := Su.1.1 82 (by decide)
  refine c_checkOf (T := fun i => nI (T i)) (by rw [l82]; decide) (by rw [l82]; omega) (by omega) (fun i i1 i2 => ⟨Su.1.2.2.2 i (by omega), by have := S.t i; (first | omega | (simp (disch := omega) only [Int32.le_iff_toInt_le, Int32.lt_iff_toInt_lt, z_eq, z_in, nI_toInt, z_cl, z_m1, z_sg, z_255, Int32.reduceToInt] <;> omega) | (simp only [Int32.le_iff_toInt_le, Int32.lt_iff_toInt_lt, z_eq, z_in, z_add, z_sub, z_mul, z_neg, z_nI, z_cl, z_sg, z_255, z_lit, Int32.reduceToInt] <;> omega)), by have := S.t i; (first | omega | (simp (disch := omega) only [Int32.le_iff_toInt_le, Int32.lt_iff_toInt_lt, z_eq, z_in, nI_toInt, z_cl, z_m1, z_sg, z_255, Int32.reduceToInt] <;> omega) | (simp only [Int32.le_iff_toInt_le, Int32.lt_iff_toInt_lt, z_eq, z_in, z_add, z_sub, z_mul, z_neg, z_nI, z_cl, z_sg, z_255, z_lit, Int32.reduceToInt] <;> omega))⟩) ?_
  have set : ∀ w, FrHd x w → fA w 90 = fA x 90 → fA w 91 = fA x 91 → fL w 92 = fL x 92 → fL w 93 = fL x 93 → fA w 82 = fA x 82 → (∀ w', FrHd x w' → (∀ a k, fI w' a k = fI w a k) → fA w' 82 = fA x 82 → fA w' 90 = upd (fA x 90) pg (nI m) → fA w' 91 = upd (fA x 91) pg (nI no) → fL w' 92 = fL x 92 → fL w' 93 = fL x 93 → post (nI how) w') → (vp_in (nI pg) (fN w (stC (stC 96 0) 14)) ∧ ∀ x2 : St, x2 = setA w (stC (stC 96 0) 14) (nI pg) (lN m : Int64).toInt32 → (vp_in (nI pg) (fN x2 (stC (stC 96 0) 15)) ∧ ∀ x3 : St, x3 = setA x2 (stC (stC 96 0) 15) (nI pg) (lN no : Int64).toInt32 → post (nI how) x3)) := fun w w1 w90 w91 w92 w93 w82 kk => by
    rw [show stC (stC 96 0) 14 = 90 from rfl, show stC (stC 96 0) 15 = 91 from rfl, w1.len, L90, lN_i, lN_i]
    refine ⟨vp_in_nI hpg (by decide), nm_e ⟨by show vp_in _ (fN w 91); rw [w1.len, L91]; exact vp_in_nI hpg (by decide), nm_e (kk _ (Fg.trans (Fg.trans w1 (Fg.a (Or.inl rfl))) (Fg.a (Or.inr rfl))) (fun _ _ => rfl) ((gA_ne (by decide)).trans ((gA_ne (by decide)).trans w82)) ?_ ?_ w92 w93)⟩⟩
    · rw [gA_ne (by decide), gA_at, nI_clamp (by omega), w90]
    · rw [gA_at, nI_clamp (by omega), gA_ne (by decide), w91]
  unfold j_Opn_readPageHead_241 j_Opn_readPageHead_269
  by_cases cc : (lN (fxV T q 4)).toInt32 = crcS (fun i => nI (T i)) (q + 4) (q + 4 + sz)
  · rw [if_neg (fun h => h cc.symm)] at er
    refine bn_t cc (k_ck1 (set u fu u90 u91 u92 u93 u82 (fun w w1 w2 w3 w4 w5 w6 w7 => pk _ _ w er w1 ⟨Fg.fic w1 (by decide) S.1, (w2 _ _).trans Su.h0, (w2 _ _).trans Su.hp, (w2 _ _).trans Su.hs, Su.2.2.2.2.1, Su.2.2.2.2.2⟩ c w4 w5 w6 w7 w3)))
  · rw [if_pos (fun h => cc h.symm)] at er
    refine bn_f cc (r_ck0 8 Su (by decide) (by decide) (fun v r1 r2 => set v (Fg.trans fu (FrSr.hd r1)) ((r1.aa id).trans u90) ((r1.aa id).trans u91) ((r1.ll id).trans u92) ((r1.ll id).trans u93) ((r1.aa id).trans u82) (fun w w1 w2 w3 w4 w5 w6 w7 => pe 8 w er w1 ⟨(w2 _ _).trans r2.1, r2.2⟩ _)))
theorem k_head {post : Int32 → St → Prop} {pg ty : Nat} (S : Sr 104 x T n p st) (hty : ty < 4) (hpg : pg < 6000) (hb : n ≤ b)
    (pe : ∀ e y, hdR T ty st p = .error e → FrHd x y → FlC 104 y e → ∀ v, post v y)
    (pk : ∀ h q y, hdR T ty st p = .ok (h, q) → FrHd x y → Sr 104 y T n q h.2.2.2.2.2 → h.2.2.2.2.2 ≤ st → HdC x y pg b ty h → h.2.2.1 < nCod ty → 1 ≤ h.1 → h.1 ≤ 1000 → h.2.1 ≤ h.1 → post (nI h.2.2.1) y) : wp_Opn_readPageHead post 96 (nI ty) (nI pg) x := by
  have hS := S.le
  have L92 : fN x 92 = 6000 := S.1.1 92 (by decide)
  have L93 : fN x 93 = 6000 := S.1.1 93 (by decide)
  -- in a fault
  have f163 : ∀ e y l3 l5 l7, hdR T ty st p = .error e → FrHd x y → FlC 104 y e → j_Opn_readPageHead_163 post 96 (nI ty) (nI pg) l3 l5 l7 y := fun e y l3 l5 l7 h1 h2 h3 => by
    unfold j_Opn_readPageHead_163 j_Opn_readPageHead_269
    exact k_vrd0 h3.ne (k_fxd0 h3.ne (nm_e (k_narrow0 h3.ne (bn_f h3.ne (pe e y h1 h2 h3 _)))))
  have f99 : ∀ e y l3 l5 l7 s0 s1, hdR T ty st p = .error e → FrHd x y → FlC 104 y e → j_Opn_readPageHead_99 post 96 (nI ty) (nI pg) l3 l5 l7 s0 s1 104 y := fun e y l3 l5 l7 s0 s1 h1 h2 h3 => by
    unfold j_Opn_readPageHead_99 j_Opn_readPageHead_107
    exact ⟨fun _ => k_ckf h3.ne (bn_f h3.ne (f163 e y _ _ _ h1 h2 h3)), fun _ => k_ckf h3.ne (bn_f h3.ne (f163 e y _ _ _ h1 h2 h3))⟩
  have fby : ∀ e y l3 l5, hdR T ty st p = .error e → FrHd x y → FlC 104 y e → wp_Src_readByte (fun (r35 : Int32) (x34 : St) => ((¬ nI ty = 0 → ((¬ nI ty = 3 → j_Opn_readPageHead_99 post 96 (nI ty) (nI pg) l3 l5 r35 2 r35 (stC 96 2) x34) ∧ (nI ty = 3 → j_Opn_readPageHead_99 post 96 (nI ty) (nI pg) l3 l5 r35 3 r35 (stC 96 2) x34))) ∧ (nI ty = 0 → j_Opn_readPageHead_99 post 96 (nI ty) (nI pg) l3 l5 r35 1 r35 (stC 96 2) x34))) (stC 96 2) y := fun e y l3 l5 h1 h2 h3 => k_byte0 h3.ne ⟨fun _ => ⟨fun _ => f99 e y _ _ _ _ _ h1 h2 h3, fun _ => f99 e y _ _ _ _ _ h1 h2 h3⟩, fun _ => f99 e y _ _ _ _ _ h1 h2 h3⟩
  have f23 : ∀ e y l3 s0, hdR T ty st p = .error e → FrHd x y → FlC 104 y e → j_Opn_readPageHead_23 post 96 (nI ty) (nI pg) l3 s0 104 y := fun e y l3 s0 h1 h2 h3 => by
    unfold j_Opn_readPageHead_23
    exact k_ckf h3.ne (k_wany (fun _ => k_ckf h3.ne (k_vrd0 h3.ne (k_wany (fun _ => k_ckf h3.ne (fby e y _ _ h1 h2 h3))))))
  unfold wp_Opn_readPageHead
  rw [show stC 96 2 = 104 from rfl]
  refine r_vrd so4 S (fun e y y1 y2 y3 => ?_) (fun m q y y1 y2 Sy v1 v2 => ?_)
  · have er : hdR T ty st p = .error e := by unfold hdR; rw [y1]
    exact ⟨fun _ => f23 e y _ _ er (FrSr.hd y2) y3, fun _ => f23 e y _ _ er (FrSr.hd y2) y3⟩
  have er : hdR T ty st p = (if m = 0 then .error 3 else if 1000 < m then .error 4 else hdR1 T ty m st q) := by unfold hdR; rw [y1]
  rw [lg_cmp_eq, show (0 : Int64) = lN 0 from rfl]
  by_cases c0 : m = 0
  · rw [if_pos c0] at er
    refine br_t (by rw [c0]) ?_
    unfold j_Opn_readPageHead_23
    exact r_ck0 3 Sy (by decide) (by decide) (fun z z1 z2 => k_wany (fun _ => k_ckf z2.ne (k_vrd0 z2.ne (k_wany (fun _ => k_ckf z2.ne (fby 3 z _ _ er (Fg.trans (FrSr.hd y2) (FrSr.hd z1)) z2))))))
  rw [if_neg c0] at er
  refine br_f (fun z => c0 (lN_inj (by omega) (by decide) z)) ?_
  unfold j_Opn_readPageHead_23
  refine k_ck1 ?_
  rw [show (1000 : Int64) = lN 1000 from rfl]
  refine k_within v1 (by decide) (fun c1 => ?_) (fun c1 => ?_)
  rotate_left
  · rw [if_pos c1] at er
    exact r_ck0 4 Sy (by decide) (by decide) (fun z z1 z2 => k_vrd0 z2.ne (k_wany (fun _ => k_ckf z2.ne (fby 4 z _ _ er (Fg.trans (FrSr.hd y2) (FrSr.hd z1)) z2))))
  rw [if_neg (by omega)] at er
  refine k_ck1 (r_vrd so4 Sy (fun e z z1 z2 z3 => ?_) (fun no q1 z z1 z2 Sz w1 w2 => ?_))
  · exact k_wany (fun _ => k_ckf z3.ne (fby e z _ _ (by rw [er]; unfold hdR1; rw [z1]) (Fg.trans (FrSr.hd y2) (FrSr.hd z2)) z3))
  have er1 : hdR T ty st p = (if m < no then .error 7 else match fxd T 1 st q1 with
    | .error e => .error e
    | .ok (how, q1) => if nCod ty ≤ how then .error 7 else hdR2 T ty m no how st q1) := by rw [er]; unfold hdR1; rw [z1]
  have fz : FrHd x z := Fg.trans (FrSr.hd y2) (FrSr.hd z2)
  refine k_within w1 (by omega) (fun c2 => ?_) (fun c2 => ?_)
  rotate_left
  · rw [if_pos c2] at er1
    exact r_ck0 7 Sz (by decide) (by decide) (fun u u1 u2 => fby 7 u _ _ er1 (Fg.trans fz (FrSr.hd u1)) u2)
  rw [if_neg (by omega)] at er1
  refine k_ck1 (r_byte so4 Sz (fun e u u1 u2 u3 => ?_) (fun u u1 u2 Su c3 => ?_))
  · have er2 : hdR T ty st p = .error e := by rw [er1, u1]
    exact ⟨fun _ => ⟨fun _ => f99 e u _ _ _ _ _ er2 (Fg.trans fz (FrSr.hd u2)) u3, fun _ => f99 e u _ _ _ _ _ er2 (Fg.trans fz (FrSr.hd u2)) u3⟩, fun _ => f99 e u _ _ _ _ _ er2 (Fg.trans fz (FrSr.hd u2)) u3⟩
  have hT := S.t q1
  have fu : FrHd x u := Fg.trans fz (FrSr.hd u2)
  have xu : ∀ r, fA u r = fA x r := fun r => (u2.aa id).trans ((z2.aa id).trans (y2.aa id))
  have xl : ∀ r, fL u r = fL x r := fun r => (u2.ll id).trans ((z2.ll id).trans (y2.ll id))
  have er2 : hdR T ty st p = (if nCod ty ≤ T q1 then .error 7 else hdR2 T ty m no (T q1) st (q1 + 1)) := by rw [er1, u1]
  have key : ∀ k, k + 1 = nCod ty → j_Opn_readPageHead_99 post 96 (nI ty) (nI pg) (lN m) (lN no) (nI (T q1)) (nI k) (nI (T q1)) 104 u := fun k hk => by
    have k5 : k ≤ 3 := by unfold nCod at hk; split at hk <;> (try split at hk) <;> omega
    unfold j_Opn_readPageHead_99 j_Opn_readPageHead_107
    by_cases c4 : k < T q1
    · rw [if_pos (by omega)] at er2
      exact br_t (by (first | omega | (simp (disch := omega) only [Int32.le_iff_toInt_le, Int32.lt_iff_toInt_lt, z_eq, z_in, nI_toInt, z_cl, z_m1, z_sg, z_255, Int32.reduceToInt] <;> omega) | (simp only [Int32.le_iff_toInt_le, Int32.lt_iff_toInt_lt, z_eq, z_in, z_add, z_sub, z_mul, z_neg, z_nI, z_cl, z_sg, z_255, z_lit, Int32.reduceToInt] <;> omega))) (r_ck0 7 Su (by decide) (by decide) (fun v r1 r2 => bn_f r2.ne (f163 7 v _ _ _ er2 (Fg.trans fu (FrSr.hd r1)) r2)))
    · rw [if_neg (by omega)] at er2
      refine br_f (by (first | omega | (simp (disch := omega) only [Int32.le_iff_toInt_le, Int32.lt_iff_toInt_lt, z_eq, z_in, nI_toInt, z_cl, z_m1, z_sg, z_255, Int32.reduceToInt] <;> omega) | (simp only [Int32.le_iff_toInt_le, Int32.lt_iff_toInt_lt, z_eq, z_in, z_add, z_sub, z_mul, z_neg, z_nI, z_cl, z_sg, z_255, z_lit, Int32.reduceToInt] <;> omega))) (k_ck1 (bn_t Su.h0 ?_))
      rw [lg_cmp_ge, lN_le2 (by omega) (by omega)]
      by_cases c5 : m ≤ no
      · have el : lhR T ty no m st (q1 + 1) = .ok (((0, []), (0, [])), q1 + 1) := if_neg (by omega)
        have er3 : hdR T ty st p = hdR3 T m no (T q1) ((0, []), (0, [])) st (q1 + 1) := by rw [er2]; unfold hdR2; rw [el]
        refine br_t c5 (k_hd163 (ty := ty) (lh := ((0, []), (0, []))) Su hpg c1 c2 (fun e v v1 v2 v3 => pe e v (er3.trans v1) (Fg.trans fu v2) v3) (fun en q v v1 v2 Sv v3 v4 v5 v6 v7 v8 => ?_))
        exact pk (m, no, T q1, (0, []), (0, []), en) q v (er3.trans v1) (Fg.trans fu v2) Sv v3 ⟨by rw [v4, xu], by rw [v5, xu], fun i _ => ⟨by rw [v6, xl], by rw [v7, xl]⟩, fun h => absurd h (by show ¬ no < m; omega)⟩ (by show T q1 < _; omega) (by show 1 ≤ m; omega) c1 c2
      · refine br_f c5 (k_tld so4 Su hty hb (fun e v v1 v2 v3 r19 => ?_) (fun lo q2 v r19 v1 v2 Sv v3 => ?_))
        · have er3 : hdR T ty st p = .error e := by rw [er2]; unfold hdR2 lhR; rw [if_pos (by omega), v1]
          refine ⟨by rw [show stC (stC 96 0) 16 = 92 from rfl, v2.len, fu.len, L92]; exact vp_in_nI hpg (by decide), nm_e (k_tld0 v3.ne (fun r22 => ⟨by rw [show stC (stC 96 0) 17 = 93 from rfl]; show vp_in _ (fN v 93); rw [v2.len, fu.len, L93]; exact vp_in_nI hpg (by decide), nm_e (f163 e _ _ _ _ er3 ?_ v3)⟩))⟩
          exact Fg.trans (Fg.trans (Fg.trans fu (FrSr.hd v2)) (Fg.l (Or.inl rfl))) (Fg.l (Or.inr rfl))
        · refine ⟨by rw [show stC (stC 96 0) 16 = 92 from rfl, v2.len, fu.len, L92]; exact vp_in_nI hpg (by decide), nm_e ?_⟩
          rw [show stC (stC 96 0) 16 = 92 from rfl]
          have fv : FrHd x (setL v 92 (nI pg) r19) := Fg.trans (Fg.trans fu (FrSr.hd v2)) (Fg.l (Or.inl rfl))
          refine k_tld so4 (Sv.l (r := 92) (i := nI pg) (v := r19)) hty hb (fun e w w1 w2 w3 r22 => ?_) (fun hi q3 w r22 w1 w2 Sw w3 => ?_)
          · have er3 : hdR T ty st p = .error e := by rw [er2]; unfold hdR2 lhR; rw [if_pos (by omega), v1]; simp only; rw [w1]
            refine ⟨by rw [show stC (stC 96 0) 17 = 93 from rfl, w2.len, fv.len, L93]; exact vp_in_nI hpg (by decide), nm_e (f163 e _ _ _ _ er3 ?_ w3)⟩
            exact Fg.trans (Fg.trans fv (FrSr.hd w2)) (Fg.l (Or.inr rfl))
          · refine ⟨by rw [show stC (stC 96 0) 17 = 93 from rfl, w2.len, fv.len, L93]; exact vp_in_nI hpg (by decide), nm_e ?_⟩
            rw [show stC (stC 96 0) 17 = 93 from rfl]
            have el : lhR T ty no m st (q1 + 1) = .ok ((lo, hi), q3) := by unfold lhR; rw [if_pos (by omega), v1]; simp only; rw [w1]
            have er3 : hdR T ty st p = hdR3 T m no (T q1) (lo, hi) st q3 := by rw [er2]; unfold hdR2; rw [el]
            have fw : FrHd x (setL w 93 (nI pg) r22) := Fg.trans (Fg.trans fv (FrSr.hd w2)) (Fg.l (Or.inr rfl))
            have wA : ∀ r, fA (setL w 93 (nI pg) r22) r = fA x r := fun r => (w2.aa id).trans ((v2.aa id).trans (xu r))
            have w92 : fL (setL w 93 (nI pg) r22) 92 = vp_updL (fL x 92) pg r19 := by rw [gL_ne (by decide), w2.ll id, gL_at, nI_clamp (by omega), v2.ll id, xl]
            have w93 : fL (setL w 93 (nI pg) r22) 93 = vp_updL (fL x 93) pg r22 := by rw [gL_at, nI_clamp (by omega), w2.ll id, gL_ne (by decide), v2.ll id, xl]
            have vlo : RfP (setL w 93 (nI pg) r22) b ty r19 lo := v3.same (by show fA w 82 = _; rw [w2.aa id]; rfl)
            have vhi : RfP (setL w 93 (nI pg) r22) b ty r22 hi := w3.same rfl
            have Sw' : Sr 104 (setL w 93 (nI pg) r22) T n q3 st := Sw.l
            generalize setL w 93 (nI pg) r22 = w' at *
            refine k_hd163 (ty := ty) (lh := (lo, hi)) Sw' hpg c1 c2 (fun e t t1 t2 t3 => pe e t (er3.trans t1) (Fg.trans fw t2) t3) (fun en q t t1 t2 St' t3 t4 t5 t6 t7 t8 => ?_)
            refine pk (m, no, T q1, lo, hi, en) q t (er3.trans t1) (Fg.trans fw t2) St' t3 ⟨by rw [t4, wA], by rw [t5, wA], fun i hi => ⟨by rw [t6, w92, updL_ne hi], by rw [t7, w93, updL_ne hi]⟩, fun _ => ⟨?_, ?_⟩⟩ (by show T q1 < _; omega) (by show 1 ≤ m; omega) c1 c2
            · show RfP t b ty (fL t 92 pg) lo
              rw [t6, w92, updL_at]
              exact vlo.same t8
            · show RfP t b ty (fL t 93 pg) hi
              rw [t7, w93, updL_at]
              exact vhi.same t8
  by_cases t0 : ty = 0
  · subst t0
    exact bn_t rfl (key 1 rfl)
  · refine bn_f (fun z => t0 (nI_inj (b := 0) (by omega) (by decide) z)) ?_
    by_cases t3 : ty = 3
    · subst t3
      exact bn_t rfl (key 3 rfl)
    · exact bn_f (fun z => t3 (nI_inj (b := 3) (by omega) (by decide) z)) (key 2 (by unfold nCod; rw [if_neg t0, if_neg t3]))
end
