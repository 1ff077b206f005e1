/-! a run, model -/
section
variable {x y z : St} {F : List SFd} {G : List Nat} {K : List ChT} {CK : List (List PgW)} {Pl : List PV} {s : Nat} {Q : Qy}
theorem s_run0 {post : Int32 → St → Prop} (h : fI x 0 120 = 0) (p : post (-1) (setI x 0 0 0)) : wp_Mod_run post x := by
  unfold wp_Mod_run
  exact nm_e (bn_t h p)
theorem s_run1 {post : Int32 → St → Prop} (H : RnM x F G K CK Pl) (hw : WfS F) (ok : OkO F G CK) (hk : KtO F G K CK) (wd : WdO F CK) (hl : CK.length = ncol F * G.length) (h120 : ¬ fI x 0 120 = 0) (hs : s < 3) (h117 : fI x 0 117 = nI s) (hQ : KqM x s Q) (hW : QyW F Q)
    (p0 : runO F G CK Q = none → ∀ y, FrR0 x y → post (-1) y) (p1 : ∀ n, runO F G CK Q = some n → ∀ y, FrRun x y → fI y 0 121 = 1 → fI y 0 119 = nI s → RaM y F G CK Pl Q → post (nI n) y) : wp_Mod_run post x := by
  have h2000 := H.1.2.2.2.2.1
  unfold wp_Mod_run
  have f0 : FrR0 x (setI x 0 0 0) := Fg.i (by decide)
  refine nm_e (bn_f h120 ?_)
  have e117 : fI (setI x 0 0 0) 0 117 = nI s := h117
  generalize setI x 0 0 0 = x1 at *
  refine s_lookAtAll (H.run f0.run) hw ok hk wd hl hs e117 (hQ.run f0.run) hW (fun y fy y165 y166 hd => ?_)
  have f1 : FrR0 x y := f0.trans (FrR0.lk fy)
  have Hy := H.1.run f1.run
  have Qy := hQ.run f1.run
  have y117 : fI y 0 117 = nI s := (fy.1 0 117 (fun z => by omega)).trans e117
  have lL := fnd_le (F := F) (G := G) (CK := CK) (Q := Q)
  rw [y117]
  refine s_collects Hy.1 hs Qy.1 ?_
  by_cases c : cll Q = true
  · rw [if_pos c]
    refine br_f (by decide) ?_
    have run : runO F G CK Q = (grpA F G CK Q).map List.length := by unfold runO; rw [if_pos c]
    refine s_collectAll Hy hw ok hl hs y117 Qy hW hd (by omega) (fun r hr => fnd_lt hr) (fun nb e z fz => ?_) (fun A e z fz gz => ?_)
    · refine bn_t rfl (p0 ?_ z (f1.trans (FrR0.cl fz)))
      rw [run]
      unfold grpA
      rw [if_neg nb, e]
      rfl
    · have eA : grpA F G CK Q = some A := e
      have f2 : FrR0 x z := f1.trans (FrR0.cl fz)
      refine bn_f (by decide) (nm_e ?_)
      have f3 : FrRun x (setI z 0 161 (fI z 0 162)) := f2.run.trans (Fg.i (by decide))
      have z161 : fI (setI z 0 161 (fI z 0 162)) 0 161 = nI A.length := by rw [gI_at]; exact gz.1
      have z165 : fI (setI z 0 161 (fI z 0 162)) 0 165 = nI (skT F Q G CK).1 := by
        rw [gI_ne (by decide)]; exact (fz.1 0 165 (fun q => by omega)).trans y165
      have z166 : fI (setI z 0 161 (fI z 0 162)) 0 166 = nI (skT F Q G CK).2 := by
        rw [gI_ne (by decide)]; exact (fz.1 0 166 (fun q => by omega)).trans y166
      have z117 : fI (setI z 0 161 (fI z 0 162)) 0 117 = nI s := by
        rw [gI_ne (by decide)]; exact (fz.1 0 117 (fun q => by omega)).trans y117
      obtain ⟨-, g2, g3⟩ := gz
      have g3 : ∀ g, g < A.length → GcA (fA (setI z 0 161 (fI z 0 162)) 105) (fA (setI z 0 161 (fI z 0 162)) 106) (fA (setI z 0 161 (fI z 0 162)) 107) (fA (setI z 0 161 (fI z 0 162)) 108) (fL (setI z 0 161 (fI z 0 162)) 113) F G CK Pl Q g (A.getD g (0, [])) := g3
      generalize setI z 0 161 (fI z 0 162) = w at *
      have Lw : LM w := fun a => (congrFun f3.2.2.2.2.2 a).trans (H.1.1 a)
      have q16 := Qy.1.1.2.1
      refine s_keepG Lw g2 z161 (fun u fu uI ug ui l => ?_)
      refine s_r183 ((uI 117).trans z117) (fun v fv vI vA vL v121 v119 v163 v164 => ?_)
      rw [uI 161, z161]
      refine p1 A.length (by rw [run, eA]; rfl) v (f3.trans (fu.trans fv)) v121 v119 ⟨?_, ?_, fun cn => ?_, fun _ => ⟨A, eA, ?_, g2, fun g hg => ?_⟩⟩
      · rw [v163, uI]; exact z165
      · rw [v164, uI]; exact z166
      · rw [c] at cn; exact nomatch cn
      · rw [vI 161 (by decide) (by decide) (by decide) (by decide), uI, z161]
      · rw [vA, vL]
        obtain ⟨a1, a2, a3⟩ := g3 g hg
        refine ⟨(ug g hg).1.trans a1, (ug g hg).2.trans a2, fun i hi => ?_⟩
        obtain ⟨c1, c2, c3⟩ := ui (16 * g + i) (by omega)
        exact (a3 i hi).cg c1 c2 c3
  · have c : cll Q = false := Bool.not_eq_true _ |>.mp c
    rw [c]
    refine br_t rfl (nm_e ?_)
    have run : runO F G CK Q = some (fndR F G CK Q).length := by unfold runO; rw [c]; rfl
    have f3 : FrRun x (setI y 0 161 (fI y 0 160)) := f1.run.trans (Fg.i (by decide))
    have z161 : fI (setI y 0 161 (fI y 0 160)) 0 161 = nI (fndR F G CK Q).length := by rw [gI_at]; exact hd.1
    have z165 : fI (setI y 0 161 (fI y 0 160)) 0 165 = nI (skT F Q G CK).1 := by
      rw [gI_ne (by decide)]; exact y165
    have z166 : fI (setI y 0 161 (fI y 0 160)) 0 166 = nI (skT F Q G CK).2 := by
      rw [gI_ne (by decide)]; exact y166
    have z117 : fI (setI y 0 161 (fI y 0 160)) 0 117 = nI s := by
      rw [gI_ne (by decide)]; exact y117
    have hd : ∀ i, i < (fndR F G CK Q).length → fA (setI y 0 161 (fI y 0 160)) 103 i = nI ((fndR F G CK Q).getD i 0) := hd.2
    generalize setI y 0 161 (fI y 0 160) = w at *
    have Lw : LM w := fun a => (congrFun f3.2.2.2.2.2 a).trans (H.1.1 a)
    refine s_keepR Lw (by omega) z161 hd (fun u fu uI ud l => ?_)
    refine s_r183 ((uI 117).trans z117) (fun v fv vI vA vL v121 v119 v163 v164 => ?_)
    rw [uI 161, z161]
    refine p1 _ run v (f3.trans (fu.trans fv)) v121 v119 ⟨?_, ?_, fun _ => ⟨?_, ?_⟩, fun cn => ?_⟩
    · rw [v163, uI]; exact z165
    · rw [v164, uI]; exact z166
    · rw [vI 161 (by decide) (by decide) (by decide) (by decide), uI, z161]
    · rw [vA]; exact ud
    · rw [c] at cn; exact nomatch cn
end
