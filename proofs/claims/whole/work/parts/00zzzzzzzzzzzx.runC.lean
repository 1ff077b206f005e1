/-! a run, class -/
/-- what an answer holds, class -/
def AnR (x : St) (o : Nat) (on : Bool) (F : List SFd) (G : List Nat) (CK : List (List PgW)) (b : Nat) (Q : Qy) : Prop := (fI x o 0 = if on = true then 1 else 0) ∧ (on = true → (fI x o 6 = if cll Q = true then 1 else 0) ∧ fI x o 7 = nI Q.1.length ∧ fI x o 2 = nI (skT F Q G CK).1 ∧ fI x o 3 = nI (skT F Q G CK).2 ∧ (cll Q = false → RwC x o (fndR F G CK Q) ∧ WnR x o F Q) ∧ (cll Q = true → ∃ A, grpA F G CK Q = some A ∧ GrC x o b F G CK Q A))
abbrev FrVr (a c : Nat) (x y : St) : Prop := Fg (fun o _ => o = a ∨ o = c) no2 (fun o k => o = 0 ∧ (k = 12 ∨ k = 13) ∨ o = c ∧ (k = 14 ∨ k = 15)) (fun r => c + 1 ≤ r ∧ r ≤ c + 8) (fun r => r = c + 4) x y
theorem f_r {x y : St} {I J R : Nat → Nat → Prop} {A L : Nat → Prop} (f : Fg I J R A L x y) {o k : Nat} (h : ¬ R o k) : fR y o k = fR x o k := f.2.2.1 o k h
section
variable {x y z : St} {F : List SFd} {G : List Nat} {K : List ChT} {CK : List (List PgW)} {b dE f r o qo s t g j c ix : Nat} {Q : Qy} {A : List GrT} {W : List Nat}
theorem k_fill {post : Int32 → St → Prop} (R : RuC x F G K CK b dE) (ho : AId o) (hq : QId qo) (hS : SqC F x qo Q) (hQ7 : fI x qo 7 = if cll Q = true then 1 else 0) (hW : QyW F Q) (hlt : (ltB Q.2.2.2).length ≤ 2000)
    (p0 : runO F G CK Q = none → ∀ y, FrFi o x y → fI y o 0 = 0 → post 0 y)
    (p1 : ∀ n, runO F G CK Q = some n → ∀ y, FrFi o x y → AnC y o qo F G K CK b dE Q → FlG y o Q → fI y o 1 = nI n → (cll Q = false → RwC y o (fndR F G CK Q) ∧ WnR y o F Q) → (cll Q = true → ∃ A, grpA F G CK Q = some A ∧ GrC y o b F G CK Q A) → post 1 y) : wp_Ans_fill post o 97 qo x := by
  have ho2 : 128 ≤ o ∧ o ≤ 137 := by rcases ho with rfl | rfl <;> decide
  have hq2 : 106 ≤ qo ∧ qo ≤ 117 := by rcases hq with rfl | rfl <;> decide
  have o10 := (sta ho).2.2.2.2.1
  unfold wp_Ans_fill
  refine nm_e (nm_e (nm_e (nm_e ⟨qo, (show fR (setR (setR x o 14 (some 97)) o 15 (some qo)) o 15 = some qo from gR_at), ?_⟩)))
  have f1 : FrFi o x (setI (setI (setR (setR x o 14 (some 97)) o 15 (some qo)) o 0 0) o 1 0) := (Fg.r ⟨rfl, Or.inl rfl⟩).trans ((Fg.r ⟨rfl, Or.inr rfl⟩).trans ((Fg.i (I := fun a _ => a = o) rfl).trans (Fg.i (I := fun a _ => a = o) rfl)))
  have a14 : fR (setI (setI (setR (setR x o 14 (some 97)) o 15 (some qo)) o 0 0) o 1 0) o 14 = some 97 := (show fR (setR (setR x o 14 (some 97)) o 15 (some qo)) o 14 = _ from (gR_ne (by omega)).trans gR_at)
  have a15 : fR (setI (setI (setR (setR x o 14 (some 97)) o 15 (some qo)) o 0 0) o 1 0) o 15 = some qo := (show fR (setR (setR x o 14 (some 97)) o 15 (some qo)) o 15 = some qo from gR_at)
  have a0 : fI (setI (setI (setR (setR x o 14 (some 97)) o 15 (some qo)) o 0 0) o 1 0) o 0 = 0 := by rw [gI_ne (by omega), gI_at]
  have a1 : fI (setI (setI (setR (setR x o 14 (some 97)) o 15 (some qo)) o 0 0) o 1 0) o 1 = 0 := gI_at
  generalize setI (setI (setR (setR x o 14 (some 97)) o 15 (some qo)) o 0 0) o 1 0 = x1 at *
  have q1 : fI x1 qo 1 = nI Q.1.length := (f1.ii (by omega)).trans hS.1.1
  have q7 : fI x1 qo 7 = if cll Q = true then 1 else 0 := (f1.ii (by omega)).trans hQ7
  rw [q1]
  refine nm_e ⟨qo, a15, ?_⟩
  have q72 : fI (setI x1 o 7 (nI Q.1.length)) qo 7 = if cll Q = true then 1 else 0 := by
    have g : Fg (fun a _ => a = o) no2 no2 no1 no1 x1 (setI x1 o 7 (nI Q.1.length)) := Fg.i rfl
    exact (g.ii (show ¬ qo = o by omega)).trans q7
  rw [q72]
  have bw : ∀ c : Bool, narrow .boolean (.int (if c = true then 1 else 0)) = .int (if c = true then 1 else 0) ∧ fits .boolean (.int (if c = true then 1 else 0)) = true := fun c => by cases c <;> exact ⟨rfl, rfl⟩
  refine ⟨(bw (cll Q)).1, (bw (cll Q)).2, nm_e ?_⟩
  have f2 : FrFi o x (setI (setI x1 o 7 (nI Q.1.length)) o 6 (if cll Q = true then 1 else 0)) := f1.trans ((Fg.i (I := fun a _ => a = o) rfl).trans (Fg.i (I := fun a _ => a = o) rfl))
  have b14 : fR (setI (setI x1 o 7 (nI Q.1.length)) o 6 (if cll Q = true then 1 else 0)) o 14 = some 97 := a14
  have b15 : fR (setI (setI x1 o 7 (nI Q.1.length)) o 6 (if cll Q = true then 1 else 0)) o 15 = some qo := a15
  have b0 : fI (setI (setI x1 o 7 (nI Q.1.length)) o 6 (if cll Q = true then 1 else 0)) o 0 = 0 := by rw [gI_ne (by omega), gI_ne (by omega)]; exact a0
  have b1 : fI (setI (setI x1 o 7 (nI Q.1.length)) o 6 (if cll Q = true then 1 else 0)) o 1 = 0 := by rw [gI_ne (by omega), gI_ne (by omega)]; exact a1
  have b7 : fI (setI (setI x1 o 7 (nI Q.1.length)) o 6 (if cll Q = true then 1 else 0)) o 7 = nI Q.1.length := by rw [gI_ne (by omega), gI_at]
  have b6 : fI (setI (setI x1 o 7 (nI Q.1.length)) o 6 (if cll Q = true then 1 else 0)) o 6 = if cll Q = true then 1 else 0 := gI_at
  generalize setI (setI x1 o 7 (nI Q.1.length)) o 6 (if cll Q = true then 1 else 0) = x2 at *
  have L2 : LC x2 := fun r hr => by rw [f2.len]; exact R.1 r hr
  have R2 : RuC x2 F G K CK b dE := R.cg L2 (fun a k ha => f2.1 a k (fun z => by omega)) (fun a a1 a2 => f2.2.2.2.1 a (fun z => by omega)) (fun a a1 a2 => f2.2.2.2.2.1 a (fun z => by omega))
  have B2 : AnC x2 o qo F G K CK b dE Q := ⟨R2, ho, hq, b14, b15, hS.cg (fun k => f2.1 qo k (fun z => by omega)) (fun a a1 a2 => f2.2.2.2.1 a (fun z => by omega)) (f2.2.2.2.2.1 _ (fun z => by omega)), hW, hlt⟩
  have n5 := (ho.len L2).2.2.2.2.1
  rw [o10]
  refine d_fill (by rw [n5]; decide) (fun y fy y5 => ?_)
  rw [n5] at y5
  have fay : FrA o x2 y := fy.mono (fun _ _ z => z.elim) (fun _ _ z => z) (fun _ _ z => z) (fun a z => by omega) (fun _ z => z.elim)
  have By := B2.fa fay
  have fl : FlG y o Q := ⟨(fy.ii (fun z => z)).trans b0, (fy.ii (fun z => z)).trans b6, (fy.ii (fun z => z)).trans b7⟩
  have y1 : fI y o 1 = 0 := (fy.ii (fun z => z)).trans b1
  have fxy : FrFi o x y := f2.trans (FrFi.a fay)
  rw [fl.2.1]
  by_cases cc : cll Q = true
  rotate_left
  · have c : cll Q = false := Bool.not_eq_true _ |>.mp cc
    rw [if_neg cc]
    have run : runO F G CK Q = some (fndR F G CK Q).length := by unfold runO; rw [c]; rfl
    refine br_t rfl (k_fill1 By c fl y1 (fun z fz flz rz wz => p1 _ run z (fxy.trans (FrFi.a fz)) (By.fa fz) flz rz.1 (fun _ => ⟨rz, wz⟩) (fun e => by rw [c] at e; exact nomatch e)))
  · rw [if_pos cc]
    refine br_f (by decide) ⟨qo, By.2.2.2.2.1, ?_⟩
    have run : runO F G CK Q = (grpA F G CK Q).map List.length := by unfold runO; rw [if_pos cc]
    rw [By.2.2.2.2.2.1.2.1.1]
    by_cases hb : Q.2.1 = []
    · refine bn_t (by rw [hb]; rfl) ?_
      have ga : grpA F G CK Q = some [(-1, fndR F G CK Q)] := by unfold grpA; rw [if_pos hb]
      rw [ga] at run
      have n0 : ∀ i, i ∈ Q.1 → i.1 ≠ 0 := fun i hi e => by
        have := hW.2.2.2.2.2 cc i hi e
        rw [hb] at this
        exact nomatch this
      refine k_addGroup (A := []) By fl.2.2 ⟨y1, by decide, fun g hg => absurd hg (Nat.not_lt_zero _)⟩ (by decide) (fun i hi hn => itm_col hW cc hi hn) (Or.inl ⟨rfl, n0⟩) hW.2.1 (fun z fz gz => ?_)
      refine k_fill2 (By.fa fz.fa) cc hb (fl.cg fz (fun z => by omega) (fun z => by omega) (fun z => by omega)) gz (fun w fw flw gw => p1 1 run w (fxy.trans (FrFi.a (fz.fa.trans fw))) (By.fa (fz.fa.trans fw)) flw gw.1 (fun e => by rw [cc] at e; exact nomatch e) (fun _ => ⟨_, ga, gw⟩))
    · have lB : 0 < Q.2.1.length := List.length_pos_iff.mpr hb
      have l8 := By.2.2.2.2.2.1.2.1.2.1
      have ga : grpA F G CK Q = grpG (smB F G CK Q.2.1) (fndR F G CK Q) [] := by unfold grpA; rw [if_neg hb]
      refine bn_f (fun z => by have := nI_inj (b := 0) (by omega) (by omega) z; omega) ?_
      refine k_fill3 By cc hb fl y1 y5 (fun e z fz flz => p0 ?_ z (fxy.trans (FrFi.a fz)) flz.1) (fun A e z fz flz gz => p1 A.length ?_ z (fxy.trans (FrFi.a fz)) (By.fa fz) flz gz.1 (fun e => by rw [cc] at e; exact nomatch e) (fun _ => ⟨A, by rw [ga]; exact e, gz⟩))
      · rw [run, ga, e]
        rfl
      · rw [run, ga, e]
        rfl
/-- run, class: a the answer that stands, c the other one -/
theorem k_run {post : Int32 → St → Prop} {a : Nat} {on : Bool} (hL : LC x) (hq : QId qo) (ha : AId a) (hc : AId c) (hac : a ≠ c) (h10 : fR x 0 10 = some qo) (h12 : fR x 0 12 = some a) (h13 : fR x 0 13 = some c) (hq0 : fI x qo 0 = if on = true then 1 else 0) (hon : on = true → RuC x F G K CK b dE ∧ SqC F x qo Q ∧ (fI x qo 7 = if cll Q = true then 1 else 0) ∧ QyW F Q ∧ (ltB Q.2.2.2).length ≤ 2000)
    (pn : on = false → post (-1) x)
    (p0 : on = true → runO F G CK Q = none → ∀ y, FrFi c x y → fI y c 0 = 0 → post (-1) y)
    (p1 : on = true → ∀ n, runO F G CK Q = some n → ∀ y, FrVr c c x y → fR y 0 12 = some c → fR y 0 13 = some a → AnR y c true F G CK b Q → post (nI n) y) : wp_V_run post 0 x := by
  have ho2 : 128 ≤ c ∧ c ≤ 137 := by rcases hc with rfl | rfl <;> decide
  unfold wp_V_run j_V_run_28
  refine ⟨qo, h10, ?_⟩
  rw [hq0]
  cases on with
  | false => exact br_t rfl (pn rfl)
  | true =>
    obtain ⟨R, hS, h7, hW, hlt⟩ := hon rfl
    refine br_f (by decide) ⟨c, h13, qo, h10, ?_⟩
    show wp_Ans_fill _ c 97 qo x
    refine k_fill R hc hq hS h7 hW hlt (fun e y fy y0 => bn_t rfl (p0 rfl e y fy y0)) (fun n e y fy By fl y1 h1 h2 => ?_)
    have r12 : fR y 0 12 = some a := (f_r fy (by omega)).trans h12
    have r13 : fR y 0 13 = some c := (f_r fy (by omega)).trans h13
    refine bn_f (by decide) ⟨a, r12, c, r13, nm_e (nm_e ?_)⟩
    have s12 : fR (setR (setR y 0 12 (some c)) 0 13 (some a)) 0 12 = some c := (gR_ne (by omega)).trans gR_at
    have s13 : fR (setR (setR y 0 12 (some c)) 0 13 (some a)) 0 13 = some a := gR_at
    have fs : FrVr c c y (setR (setR y 0 12 (some c)) 0 13 (some a)) := (Fg.r (Or.inl ⟨rfl, Or.inl rfl⟩)).trans (Fg.r (Or.inl ⟨rfl, Or.inr rfl⟩))
    have Bs : AnC (setR (setR y 0 12 (some c)) 0 13 (some a)) c qo F G K CK b dE Q := by
      obtain ⟨b1, b2, b3, b4, b5, b6, b7, b8⟩ := By
      refine ⟨b1.cg b1.1 (fun _ _ _ => rfl) (fun _ _ _ => rfl) (fun _ _ _ => rfl), b2, b3, ?_, ?_, b6.cg (fun _ => rfl) (fun _ _ _ => rfl) rfl, b7, b8⟩
      · rw [gR_ne (by omega), gR_ne (by omega)]
        exact b4
      · rw [gR_ne (by omega), gR_ne (by omega)]
        exact b5
    have fls : FlG (setR (setR y 0 12 (some c)) 0 13 (some a)) c Q := fl
    have y1s : fI (setR (setR y 0 12 (some c)) 0 13 (some a)) c 1 = nI n := y1
    have h1s : cll Q = false → RwC (setR (setR y 0 12 (some c)) 0 13 (some a)) c (fndR F G CK Q) ∧ WnR (setR (setR y 0 12 (some c)) 0 13 (some a)) c F Q := h1
    have h2s : cll Q = true → ∃ A, grpA F G CK Q = some A ∧ GrC (setR (setR y 0 12 (some c)) 0 13 (some a)) c b F G CK Q A := h2
    generalize setR (setR y 0 12 (some c)) 0 13 (some a) = z at *
    refine ⟨c, s12, k_skips Bs (fun w fw w2 w3 => ?_)⟩
    have t12 : fR w 0 12 = some c := (f_r fw (fun q => q)).trans s12
    have t13 : fR w 0 13 = some a := (f_r fw (fun q => q)).trans s13
    have k12 : fR (setI w c 0 1) 0 12 = some c := t12
    have fv : FrVr c c x (setI w c 0 1) := by
      have g1 : FrVr c c x y := fy.mono (fun _ _ z => Or.inl z) (fun _ _ z => z) (fun _ _ z => Or.inr z) (fun _ z => z) (fun _ z => z)
      have g3 : FrVr c c z w := fw.mono (fun _ _ z => Or.inl z.1) (fun _ _ z => z) (fun _ _ z => z.elim) (fun _ z => by omega) (fun _ z => z.elim)
      exact g1.trans (fs.trans (g3.trans (Fg.i (Or.inl rfl))))
    refine ⟨c, t12, nm_e ⟨c, k12, ?_⟩⟩
    have ew : ∀ k, k ≠ 2 → k ≠ 3 → fI w c k = fI z c k := fun k k2 k3 => fw.ii (fun q => by omega)
    have e1 : fI (setI w c 0 1) c 1 = nI n := by rw [gI_ne (by omega), ew 1 (by decide) (by decide)]; exact y1s
    rw [e1]
    refine p1 rfl n e _ fv k12 t13 ⟨gI_at, fun _ => ⟨?_, ?_, ?_, ?_, fun cf => ?_, fun ct => ?_⟩⟩
    · rw [gI_ne (by omega), ew 6 (by decide) (by decide)]; exact fls.2.1
    · rw [gI_ne (by omega), ew 7 (by decide) (by decide)]; exact fls.2.2
    · rw [gI_ne (by omega)]; exact w2
    · rw [gI_ne (by omega)]; exact w3
    · obtain ⟨⟨u1, u2⟩, u3⟩ := h1s cf
      refine ⟨⟨by rw [gI_ne (by omega), ew 1 (by decide) (by decide)]; exact u1, fun i hi => ?_⟩, fun f hf => ?_⟩
      · show fA w (c + 2) i = _
        rw [fw.aa (fun q => by omega)]
        exact u2 i hi
      · show _ ↔ ¬ fA w (c + 1) f = 0
        rw [fw.aa (fun q => by omega)]
        exact u3 f hf
    · obtain ⟨A, u1, u2, u3, u4⟩ := h2s ct
      refine ⟨A, u1, by rw [gI_ne (by omega), ew 1 (by decide) (by decide)]; exact u2, u3, fun g hg => ?_⟩
      obtain ⟨v1, v2⟩ := u4 g hg
      refine ⟨?_, fun i hi => (v2 i hi).cg ?_ ?_ ?_⟩
      · show fA w (c + 2) g = _
        rw [fw.aa (fun q => by omega)]
        exact v1
      · show fA w (c + 3) _ = _
        rw [fw.aa (fun q => by omega)]
      · show fL w (c + 4) _ = _
        rw [fw.ll (fun q => q)]
      · show fA w 82 = _
        exact fw.aa (fun q => by omega)
end
