/-! the model reads the values of a page, and its body -/
def WdM (y : St) (ty how : Nat) (W : List PV) : Prop := ty ≠ 0 → how = nCod ty - 1 → (ty = 3 → WdT y W) ∧ (ty ≠ 3 → WdW y W)
section
variable {x : St} {T : Nat → Nat} {n st p ty how : Nat}
theorem s_vlR {K : St → Prop} {m : Nat} (hF : FiM x T n) (h0 : fI x 0 69 = 0) (hp : fI x 0 67 = nI p) (h68 : fI x 0 68 = nI st) (h38 : fI x 0 38 = nI ty) (hty : ty < 4) (hh : how < nCod ty) (hps : p ≤ st) (hst : st ≤ n) (hm : m ≤ 1000) (h34 : fA x 34 0 = 0)
    (pe : ∀ e y, vlR T ty how m st p = .error e → FrVl x y → Flt y e → fA y 34 0 = 0 → K y)
    (pk : ∀ P W q y, vlR T ty how m st p = .ok ((P, W), q) → FrVl x y → fI y 0 69 = 0 → fI y 0 67 = nI q → q ≤ st → NvM y ty P → P.length = m → WdM y ty how W → fA y 34 0 = 0 → K y) :
    ((¬ (fI x 0 38) = 0 → ((¬ (fI x 0 38) = 3 → wp_Mod_readWholes (fun z => K z) (nI how) (nI m) x) ∧ ((fI x 0 38) = 3 → wp_Mod_readTexts (fun z => K z) (nI how) (nI m) x))) ∧ ((fI x 0 38) = 0 → wp_Mod_readBools (fun z => K z) (nI how) (nI m) x)) := by
  rw [h38]
  have n4 : nCod ty ≤ 4 := by unfold nCod; split; decide; split <;> decide
  have v34 : ∀ y, FrVn x y → fA y 34 0 = 0 := fun y f => by
    show y.2.2.2.1 34 0 = 0
    rw [f.2.2.2.1 34 (by decide)]; exact h34
  by_cases c0 : ty = 0
  · have n2 : nCod ty = 2 := by unfold nCod; rw [if_pos c0]
    refine ⟨fun z => absurd (by rw [c0]; rfl) z, fun _ => ?_⟩
    have nv : ∀ {y : St} {P : List PV}, NwW y P → NvM y ty P := fun h => ⟨fun z => by omega, fun _ => h⟩
    have wd : ∀ {y : St} {W : List PV}, WdM y ty how W := fun z => absurd c0 z
    by_cases c1 : how = 1
    · have ev : vlR T ty how m st p = noW (bl1 T m st p) := by unfold vlR; rw [if_pos c0, if_pos c1]
      rw [c1]
      exact s_bl1 hF h0 hp h68 hps hst hm (fun e y y1 y2 y3 => pe e y (by rw [ev, y1]; rfl) y2.vl y3 (v34 y y2)) (fun P q y y1 y2 y3 y4 y5 y6 y7 => pk P [] q y (by rw [ev, y1]; rfl) y2.vl y3 y4 y5 (nv y6) y7 wd (v34 y y2))
    · have ev : vlR T ty how m st p = noW (bl0 T m st p) := by unfold vlR; rw [if_pos c0, if_neg c1]
      exact s_bl0 hF h0 hp h68 hps hst hm (fun z => c1 (nI_inj (b := 1) (by omega) (by decide) z)) (fun e y y1 y2 y3 => pe e y (by rw [ev, y1]; rfl) y2.vl y3 (v34 y y2)) (fun P q y y1 y2 y3 y4 y5 y6 y7 => pk P [] q y (by rw [ev, y1]; rfl) y2.vl y3 y4 y5 (nv y6) y7 wd (v34 y y2))
  · refine ⟨fun _ => ?_, fun z => absurd (nI_inj (b := 0) (by omega) (by decide) z) c0⟩
    by_cases c3 : ty = 3
    · have n3 : nCod ty = 4 := by unfold nCod; rw [if_neg c0, if_pos c3]
      refine ⟨fun z => absurd (by rw [c3]; rfl) z, fun _ => ?_⟩
      unfold wp_Mod_readTexts
      refine nm_e ?_
      have fX : FrVl x (setI x 0 58 0) := Fg.i ⟨rfl, by decide⟩
      have FX' := fX.fi hF
      have X69 : fI (setI x 0 58 0) 0 69 = 0 := (gI_ne (by decide)).trans h0
      have X67 : fI (setI x 0 58 0) 0 67 = nI p := (gI_ne (by decide)).trans hp
      have X68 : fI (setI x 0 58 0) 0 68 = nI st := (gI_ne (by decide)).trans h68
      have XN : NwT (setI x 0 58 0) [] := ⟨gI_at, Nat.zero_le _, Nat.zero_le _, fun k hk => by
        have k0 : k = 0 := Nat.le_zero.mp hk
        rw [k0]; exact h34, fun k hk => absurd hk (Nat.not_lt_zero _)⟩
      generalize setI x 0 58 0 = X at *
      have nv : ∀ {y : St} {P : List PV}, NwT y P → NvM y ty P := fun h => ⟨fun _ => h, fun z => absurd c3 z⟩
      have wd : how ≠ 3 → ∀ {y : St} {W : List PV}, WdM y ty how W := fun z _ _ _ w => absurd (by rw [n3] at w; exact w) z
      by_cases c1 : how = 0
      · have ev : vlR T ty how m st p = noW (ptxF T st m [] p) := by unfold vlR; rw [if_neg c0, if_pos c3, if_pos c1]
        refine ⟨fun z => absurd (by rw [c1]; rfl) z, fun _ => ?_⟩
        exact s_ptx FX' X69 X67 X68 hps hst hm XN (fun e y y1 y2 y3 y0 => pe e y (by rw [ev, y1]; rfl) (Fg.trans fX y2.vl) y3 y0) (fun P q y y1 y2 y3 y4 y5 y6 y7 => pk P [] q y (by rw [ev, y1]; rfl) (Fg.trans fX y2.vl) y3 y4 y5 (nv y6) y7 (wd (by omega)) y6.z)
      · refine ⟨fun _ => ?_, fun z => absurd (nI_inj (b := 0) (by omega) (by decide) z) c1⟩
        by_cases c2 : how = 1
        · have ev : vlR T ty how m st p = noW (tx1 T m st p) := by unfold vlR; rw [if_neg c0, if_pos c3, if_neg c1, if_pos c2]
          refine ⟨fun z => absurd (by rw [c2]; rfl) z, fun _ => ?_⟩
          exact s_tx1 FX' X69 X67 X68 hps hst hm XN (fun e y y1 y2 y3 y0 => pe e y (by rw [ev, y1]; rfl) (Fg.trans fX y2) y3 y0) (fun P q y y1 y2 y3 y4 y5 y6 y7 => pk P [] q y (by rw [ev, y1]; rfl) (Fg.trans fX y2) y3 y4 y5 (nv y6) y7 (wd (by omega)) y6.z)
        · refine ⟨fun _ => ?_, fun z => absurd (nI_inj (b := 1) (by omega) (by decide) z) c2⟩
          by_cases c4 : how = 2
          · have ev : vlR T ty how m st p = noW (tx2 T m st p) := by unfold vlR; rw [if_neg c0, if_pos c3, if_neg c1, if_neg c2, if_pos c4]
            refine ⟨fun z => absurd (by rw [c4]; rfl) z, fun _ => ?_⟩
            exact s_tx2 FX' X69 X67 X68 hps hst hm XN (fun e y y1 y2 y3 y0 => pe e y (by rw [ev, y1]; rfl) (Fg.trans fX y2) y3 y0) (fun P q y y1 y2 y3 y4 y5 y6 y7 => pk P [] q y (by rw [ev, y1]; rfl) (Fg.trans fX y2) y3 y4 y5 (nv y6) y7 (wd (by omega)) y6.z)
          · have ev : vlR T ty how m st p = dcR T 3 m st p := by unfold vlR; rw [if_neg c0, if_pos c3, if_neg c1, if_neg c2, if_neg c4]
            refine ⟨fun _ => ?_, fun z => absurd (nI_inj (b := 2) (by omega) (by decide) z) c4⟩
            exact s_dcT FX' X69 X67 X68 hps hst hm XN (fun e y y1 y2 y3 y0 => pe e y (by rw [ev, y1]) (Fg.trans fX y2) y3 y0) (fun P W q y y1 y2 y3 y4 y5 y6 y7 y8 => pk P W q y (by rw [ev, y1]) (Fg.trans fX y2) y3 y4 y5 (nv y6) y8 (fun _ _ => ⟨fun _ => y7, fun z => absurd c3 z⟩) y6.z)
    · have n3 : nCod ty = 3 := by unfold nCod; rw [if_neg c0, if_neg c3]
      have hty12 : ty = 1 ∨ ty = 2 := by omega
      refine ⟨fun _ => ?_, fun z => absurd (nI_inj (b := 3) (by omega) (by decide) z) c3⟩
      have nv : ∀ {y : St} {P : List PV}, NwW y P → NvM y ty P := fun h => ⟨fun z => absurd z c3, fun _ => h⟩
      have wd : how ≠ 2 → ∀ {y : St} {W : List PV}, WdM y ty how W := fun z _ _ _ w => absurd (by rw [n3] at w; exact w) z
      by_cases c1 : how = 0
      · have ev : vlR T ty how m st p = noW (wplF T ty st m [] p) := by unfold vlR; rw [if_neg c0, if_neg c3, if_pos c1]
        rw [c1]
        exact s_wpl hF h0 hp h68 h38 hty12 hps hst hm (fun e y y1 y2 y3 => pe e y (by rw [ev, y1]; rfl) y2.vl y3 (v34 y y2)) (fun P q y y1 y2 y3 y4 y5 y6 y7 => pk P [] q y (by rw [ev, y1]; rfl) y2.vl y3 y4 y5 (nv y6) y7 (wd (by omega)) (v34 y y2))
      · by_cases c2 : how = 1
        · have ev : vlR T ty how m st p = noW (wh1 T ty m st p) := by unfold vlR; rw [if_neg c0, if_neg c3, if_neg c1, if_pos c2]
          rw [c2]
          exact s_wh1 hF h0 hp h68 h38 hty12 hps hst hm (fun e y y1 y2 y3 => pe e y (by rw [ev, y1]; rfl) y2.vl y3 (v34 y y2)) (fun P q y y1 y2 y3 y4 y5 y6 y7 => pk P [] q y (by rw [ev, y1]; rfl) y2.vl y3 y4 y5 (nv y6) y7 (wd (by omega)) (v34 y y2))
        · have ev : vlR T ty how m st p = dcR T ty m st p := by unfold vlR; rw [if_neg c0, if_neg c3, if_neg c1, if_neg c2]
          exact s_dcW hF h0 hp h68 h38 hty12 hps hst hm (fun z => c1 (nI_inj (b := 0) (by omega) (by decide) z)) (fun z => c2 (nI_inj (b := 1) (by omega) (by decide) z)) (fun e y y1 y2 y3 => pe e y (by rw [ev, y1]) y2.vl y3 (v34 y y2)) (fun P W q y y1 y2 y3 y4 y5 y6 y7 y8 => pk P W q y (by rw [ev, y1]) y2.vl y3 y4 y5 (nv y6) y8 (fun _ _ => ⟨fun z => absurd z c3, fun _ => y7⟩) (v34 y y2))
end
