/-! the model: what the schema says of a column; a page is filled -/
section
variable {x : St} {F : List SFd} {c : Nat}
theorem col11 (hR : RepM x 0 F) (hc : c < ncol F) : fA x 11 c = nI (lfC F c) := by
  obtain ⟨k1, k2, k3⟩ := lfC_ok hc
  have := hR.2.2.2 (lfC F c) k1 k2
  have e : ncol (F.take (lfC F c)) = c := k3
  rw [e, Nat.mul_zero, Nat.zero_add] at this
  exact this
theorem s_typeOf {post : Int32 → St → Prop} (hL : LM x) (hw : WfS F) (hR : RepM x 0 F) (hc : c < ncol F) (hc64 : c < 64) (p : post (fTy F (lfC F c)) x) : wp_Mod_typeOf post 0 (nI c) x := by
  obtain ⟨k1, k2, k3⟩ := lfC_ok hc
  have l11 : fN x 11 = 192 := hL 11
  have l4 : fN x 4 = 384 := hL 4
  have hF := hw.1
  unfold wp_Mod_typeOf
  have e0 : (64 : Int32) * 0 + nI c = nI c := by rw [Int32.mul_zero, Int32.zero_add]
  rw [e0]
  refine ⟨vp_in_nI (by omega) (by omega), ?_⟩
  rw [rA_nI (by omega), col11 hR hc]
  unfold wp_Mod_place
  have e1 : (128 : Int32) * 0 + nI (lfC F c) = nI (lfC F c) := by rw [Int32.mul_zero, Int32.zero_add]
  rw [e1]
  have ev := (hR.2.2.1 (lfC F c) k1).2.1
  rw [Nat.mul_zero, Nat.zero_add] at ev
  refine ⟨vp_in_nI (by omega) (by omega), ?_⟩
  rw [rA_nI (by omega), ev]
  exact p
theorem s_levelC {post : Int32 → St → Prop} {b : Int32} (hL : LM x) (hw : WfS F) (hR : RepM x 0 F) (hc : c < ncol F) (p : post (nI (if b = 0 then dG F (nI (lfC F c)) else rF F (lfC F c))) x) : wp_Mod_level post 0 (nI (lfC F c)) b x := by
  obtain ⟨k1, k2, k3⟩ := lfC_ok hc
  have gkf : gOk F.length (nI (lfC F c)) := Or.inr ⟨lfC F c, k1, rfl⟩
  refine s_level (q := 0) (N := F.length) hL (by decide) (hR.wf hw) gkf ?_
  have := mK_up hR hw gkf
  by_cases cb : b = 0
  · rw [if_pos cb] at p ⊢; rw [this.1]; exact p
  · rw [if_neg cb] at p ⊢; rw [this.2]; exact p
theorem s_mostR {post : Int32 → St → Prop} (hL : LM x) (hw : WfS F) (hR : RepM x 0 F) (hc : c < ncol F) (hc64 : c < 64) (p : post (nI (rF F (lfC F c))) x) : wp_Mod_mostR post 0 (nI c) x := by
  have l11 : fN x 11 = 192 := hL 11
  unfold wp_Mod_mostR
  have e0 : (64 : Int32) * 0 + nI c = nI c := by rw [Int32.mul_zero, Int32.zero_add]
  rw [e0]
  refine ⟨vp_in_nI (by omega) (by omega), ?_⟩
  rw [rA_nI (by omega), col11 hR hc]
  exact s_levelC hL hw hR hc (by rw [if_neg (by decide)]; exact p)
theorem s_mostD {post : Int32 → St → Prop} (hL : LM x) (hw : WfS F) (hR : RepM x 0 F) (hc : c < ncol F) (hc64 : c < 64) (p : post (nI (dG F (nI (lfC F c)))) x) : wp_Mod_mostD post 0 (nI c) x := by
  have l11 : fN x 11 = 192 := hL 11
  unfold wp_Mod_mostD
  have e0 : (64 : Int32) * 0 + nI c = nI c := by rw [Int32.mul_zero, Int32.zero_add]
  rw [e0]
  refine ⟨vp_in_nI (by omega) (by omega), ?_⟩
  rw [rA_nI (by omega), col11 hR hc]
  exact s_levelC hL hw hR hc (by rw [if_pos rfl]; exact p)
/-- a page of the column is filled -/
theorem s_fillPage {post : St → Prop} {RS : List (List SEn)} {r e ty : Nat} (hL : LM x) (hw : WfS F) (hR : RepM x 0 F) (hc : c < ncol F) (hc64 : c < 64) (hty : fTy F (lfC F c) = nI ty) (h : RcM x RS) (h33 : fA x 33 0 = 0) (hr : r ≤ e) (he : e ≤ RS.length) (hcl : ∀ i, i < RS.flatten.length → (en RS.flatten i).1 < 64 ∧ (en RS.flatten i).2.2.1 < 128) (hmd : dG F (nI (lfC F c)) < 128)
    (hn : (sg RS.flatten c (RS.take r).flatten.length ((RS.take e).flatten.length - (RS.take r).flatten.length)).length ≤ 1000) (ho : txI RS.flatten (sg RS.flatten c (RS.take r).flatten.length ((RS.take e).flatten.length - (RS.take r).flatten.length)) ≤ 20000)
    (p : ∀ y, FrF x y → fI y 0 38 = nI ty → fI y 0 39 = nI (rF F (lfC F c)) → fI y 0 40 = nI (dG F (nI (lfC F c))) → PgF y RS.flatten (dG F (nI (lfC F c))) (sg RS.flatten c (RS.take r).flatten.length ((RS.take e).flatten.length - (RS.take r).flatten.length)) → post y) : wp_Mod_fillPage post (nI c) (nI r) (nI e) x := by
  have keep : ∀ {y : St}, y.2 = x.2 → LM y ∧ RepM y 0 F := fun {y} e2 => by
    constructor
    · intro o
      show y.2.2.2.2.2 o = _
      rw [e2]
      exact hL o
    · have eA : ∀ a, fA y a = fA x a := fun a => by show y.2.2.2.1 a = _; rw [e2]
      unfold RepM
      simp only [eA]
      exact hR
  unfold wp_Mod_fillPage
  refine s_typeOf hL hw hR hc hc64 (nm_e ?_)
  rw [hty]
  refine s_mostR (keep rfl).1 hw (keep rfl).2 hc hc64 (nm_e ?_)
  refine s_mostD (keep rfl).1 hw (keep rfl).2 hc hc64 (nm_e (nm_e (nm_e ?_)))
  have hz : ∃ z, z = setI (setI (setI (setI (setI x 0 38 (nI ty)) 0 39 (nI (rF F (lfC F c)))) 0 40 (nI (dG F (nI (lfC F c))))) 0 41 0) 0 42 0 := ⟨_, rfl⟩
  obtain ⟨z, ez⟩ := hz
  rw [← ez]
  have fz : FrF x z := by rw [ez]; exact Fg.trans (Fg.i ⟨rfl, by decide⟩) (Fg.trans (Fg.i ⟨rfl, by decide⟩) (Fg.trans (Fg.i ⟨rfl, by decide⟩) (Fg.trans (Fg.i ⟨rfl, by decide⟩) (Fg.i ⟨rfl, by decide⟩))))
  have z38 : fI z 0 38 = nI ty := by rw [ez, gI_ne (by decide), gI_ne (by decide), gI_ne (by decide), gI_ne (by decide)]; exact gI_at
  have z39 : fI z 0 39 = nI (rF F (lfC F c)) := by rw [ez, gI_ne (by decide), gI_ne (by decide), gI_ne (by decide)]; exact gI_at
  have z40 : fI z 0 40 = nI (dG F (nI (lfC F c))) := by rw [ez, gI_ne (by decide), gI_ne (by decide)]; exact gI_at
  have z41 : fI z 0 41 = 0 := by rw [ez, gI_ne (by decide)]; exact gI_at
  have z42 : fI z 0 42 = 0 := by rw [ez]; exact gI_at
  have hLz := fz.lm hL
  have hRz := fz.rc h
  have e23 : fN z 23 = 2001 := hLz 23
  have h4 := h.2.2.2.1
  refine ⟨vp_in_nI (by omega) (by omega), nm_r (e' := nI (RS.take r).flatten.length) (by rw [rA_nI (by omega)]; exact hRz.2.2.2.2 r (by omega)) ?_⟩
  refine s_fillL hLz hRz hc64 hr he hcl hmd z40 ⟨z41, fun k hk => absurd hk (Nat.not_lt_zero _), z42, fun k hk => absurd hk (Nat.not_lt_zero _), fun k hk => ?_, fun k j hk => absurd hk (Nat.not_lt_zero _)⟩ hn ho (fun y y1 y2 => p y (Fg.trans fz y1.f) ((y1.1 0 38 (by decide)).trans z38) ((y1.1 0 39 (by decide)).trans z39) ((y1.1 0 40 (by decide)).trans z40) y2)
  have e0 : k = 0 := Nat.le_zero.mp hk
  subst e0
  show z.2.2.2.1 33 0 = _
  rw [ez]
  exact h33
end
