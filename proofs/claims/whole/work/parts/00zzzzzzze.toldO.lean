/-! the Opener reads what the footer tells of a chunk -/
abbrev FrTC (x y : St) : Prop := Fg (fun a k => a = 102 ∧ (k = 1 ∨ k = 3)) no2 no2 no1 (fun a => a = 99) x y
theorem gL_k {x : St} {r k j : Nat} {v : Int64} (hk : k < 2 ^ 31) : fL (setL x r (nI k) v) r j = if j = k then v else fL x r j := by
  rw [gL_at, nI_clamp hk]
  by_cases e : j = k
  · rw [if_pos e, e, updL_at]
  · rw [if_neg e, updL_ne e]
/-- what is told of a chunk -/
def TdC (y : St) (b ty : Nat) (t : ChT) : Prop := fL y 99 0 = lN t.1 ∧ fL y 99 1 = lN t.2.1 ∧ fL y 99 2 = lN t.2.2.1 ∧ fL y 99 3 = lN t.2.2.2.1 ∧ t.1 < 2 ^ 64 ∧ t.2.1 < 2 ^ 64 ∧ (t.2.2.2.1 < t.2.2.1 → RfP y b ty (fL y 99 4) t.2.2.2.2.1 ∧ RfP y b ty (fL y 99 5) t.2.2.2.2.2)
section
variable {x y z : St} {T : Nat → Nat} {n st p b : Nat}
theorem FrSr.tc (f : FrSr 102 x y) : FrTC x y := f.mono (fun _ _ z => z) (fun _ _ z => z) (fun _ _ z => z) (fun _ z => z) (fun _ z => z.elim)
theorem k_told {post : St → Prop} {ty : Nat} (S : Sr 102 x T n p st) (hty : ty < 4) (hb : n ≤ b)
    (pe : ∀ e y, tdR T ty st p = .error e → FrTC x y → FlC 102 y e → post y)
    (pk : ∀ t q y, tdR T ty st p = .ok (t, q) → FrTC x y → Sr 102 y T n q st → TdC y b ty t → post y) : wp_Opn_readChunkTold post 96 (nI ty) x := by
  have hS := S.le
  have L99 : fN x 99 = 6 := S.1.1 99 (by decide)
  have vin : ∀ {k : Nat} {w : St}, k < 6 → FrTC x w → vp_in (nI k) (fN w 99) := fun hk hw => by rw [hw.len, L99]; exact vp_in_nI hk (by decide)
  have i0 : (0 : Int32) = nI 0 := rfl
  have i1 : (1 : Int32) = nI 1 := rfl
  have i2 : (2 : Int32) = nI 2 := rfl
  have i3 : (3 : Int32) = nI 3 := rfl
  have i4 : (4 : Int32) = nI 4 := rfl
  have i5 : (5 : Int32) = nI 5 := rfl
  have fl : ∀ {w : St} {k v}, FrTC x w → FrTC x (setL w 99 (nI k) v) := fun h => Fg.trans h (Fg.l rfl)
  -- in a fault
  have f13 : ∀ e w, tdR T ty st p = .error e → FrTC x w → FlC 102 w e → (vp_in 3 (fN w (stC 96 6)) ∧ (vp_in 2 (fN w (stC 96 6)) ∧ (((lg_cmp (rL w (stC 96 6) 3) (rL w (stC 96 6) 2)) = 0 → post w) ∧ (¬ (lg_cmp (rL w (stC 96 6) 3) (rL w (stC 96 6) 2)) = 0 → wp_Src_readTold (fun (r16 : Int64) (x15 : St) => (vp_in 4 (fN x15 (stC 96 6)) ∧ ∀ x17 : St, x17 = setL x15 (stC 96 6) 4 r16 → wp_Src_readTold (fun (r19 : Int64) (x18 : St) => (vp_in 5 (fN x18 (stC 96 6)) ∧ ∀ x20 : St, x20 = setL x18 (stC 96 6) 5 r19 → post x20)) (stC 96 1) (nI ty) x17)) (stC 96 1) (nI ty) w)))) := fun e w h1 h2 h3 =>
    ⟨vin (k := 3) (by decide) h2, vin (k := 2) (by decide) h2, fun _ => pe e w h1 h2 h3, fun _ => k_tld0 h3.ne (fun v => ⟨vin (k := 4) (by decide) h2, nm_e (k_tld0 (o := 102) (x := setL w 99 (nI 4) v) h3.ne (fun v' => ⟨vin (k := 5) (by decide) (fl h2), nm_e (pe e _ h1 (fl (fl h2)) h3)⟩))⟩)⟩
  have f8 : ∀ e w, tdR T ty st p = .error e → FrTC x w → FlC 102 w e → wp_Src_readVarint (fun (r9 : Int64) (x8 : St) => (vp_in 3 (fN x8 (stC 96 6)) ∧ ∀ x10 : St, x10 = setL x8 (stC 96 6) 3 r9 → (vp_in 3 (fN x10 (stC 96 6)) ∧ (vp_in 2 (fN x10 (stC 96 6)) ∧ wp_V_within (fun (r12 : Int32) (x11 : St) => wp_Src_check (fun (x13 : St) => (vp_in 3 (fN x13 (stC 96 6)) ∧ (vp_in 2 (fN x13 (stC 96 6)) ∧ (((lg_cmp (rL x13 (stC 96 6) 3) (rL x13 (stC 96 6) 2)) = 0 → post x13) ∧ (¬ (lg_cmp (rL x13 (stC 96 6) 3) (rL x13 (stC 96 6) 2)) = 0 → wp_Src_readTold (fun (r16 : Int64) (x15 : St) => (vp_in 4 (fN x15 (stC 96 6)) ∧ ∀ x17 : St, x17 = setL x15 (stC 96 6) 4 r16 → wp_Src_readTold (fun (r19 : Int64) (x18 : St) => (vp_in 5 (fN x18 (stC 96 6)) ∧ ∀ x20 : St, x20 = setL x18 (stC 96 6) 5 r19 → post x20)) (stC 96 1) (nI ty) x17)) (stC 96 1) (nI ty) x13))))) (stC 96 1) r12 7 x11) (rL x10 (stC 96 6) 3) (rL x10 (stC 96 6) 2) x10)))) (stC 96 1) w := fun e w h1 h2 h3 =>
    k_vrd0 h3.ne ⟨vin (k := 3) (by decide) h2, nm_e ⟨vin (k := 3) (by decide) (fl (k := 3) h2), vin (k := 2) (by decide) (fl (k := 3) h2), k_wany (fun _ => k_ckf (o := 102) (x := setL w 99 (nI 3) 0) h3.ne (f13 e _ h1 (fl h2) h3))⟩⟩
  have f46 : ∀ e w s0, tdR T ty st p = .error e → FrTC x w → FlC 102 w e → j_Opn_readChunkTold_46 post 96 (nI ty) s0 102 w := fun e w s0 h1 h2 h3 => by
    unfold j_Opn_readChunkTold_46
    exact k_ckf h3.ne (k_vrd0 h3.ne ⟨vin (k := 2) (by decide) h2, nm_e ⟨vin (k := 2) (by decide) (fl (k := 2) h2), k_wany (fun _ => k_ckf (o := 102) (x := setL w 99 (nI 2) 0) h3.ne (f8 e _ h1 (fl h2) h3))⟩⟩)
  unfold wp_Opn_readChunkTold
  rw [show stC 96 1 = 102 from rfl, show stC 96 6 = 99 from rfl]
  refine r_vrd so2 S (fun e y y1 y2 y3 => ⟨vin (k := 0) (by decide) (FrSr.tc y2), nm_e (k_vrd0 (o := 102) (x := setL y 99 (nI 0) 0) y3.ne ⟨vin (k := 1) (by decide) (fl (FrSr.tc y2)), nm_e ⟨vin (k := 1) (by decide) (fl (fl (FrSr.tc y2))), ?_⟩⟩)⟩) (fun tb q y y1 y2 Sy v1 v2 => ⟨vin (k := 0) (by decide) (FrSr.tc y2), nm_e ?_⟩)
  · have er : tdR T ty st p = .error e := by unfold tdR; rw [y1]
    exact ⟨fun _ => f46 e _ _ er (fl (fl (FrSr.tc y2))) y3, fun _ => f46 e _ _ er (fl (fl (FrSr.tc y2))) y3⟩
  rw [show setL y 99 0 (lN tb) = setL y 99 (nI 0) (lN tb) from rfl]
  have Sy' : Sr 102 (setL y 99 (nI 0) (lN tb)) T n q st := Sy.l
  have fy : FrTC x (setL y 99 (nI 0) (lN tb)) := fl (FrSr.tc y2)
  have y0 : fL (setL y 99 (nI 0) (lN tb)) 99 0 = lN tb := by rw [gL_k (by decide), if_pos rfl]
  generalize setL y 99 (nI 0) (lN tb) = y' at *
  refine r_vrd so2 Sy' (fun e z z1 z2 z3 => ⟨vin (k := 1) (by decide) (Fg.trans fy (FrSr.tc z2)), nm_e ⟨vin (k := 1) (by decide) (fl (Fg.trans fy (FrSr.tc z2))), ?_⟩⟩) (fun tm q1 z z1 z2 Sz w1 w2 => ⟨vin (k := 1) (by decide) (Fg.trans fy (FrSr.tc z2)), nm_e ⟨vin (k := 1) (by decide) (fl (Fg.trans fy (FrSr.tc z2))), ?_⟩⟩)
  · have er : tdR T ty st p = .error e := by unfold tdR; rw [y1]; simp only; rw [z1]
    exact ⟨fun _ => f46 e _ _ er (fl (Fg.trans fy (FrSr.tc z2))) z3, fun _ => f46 e _ _ er (fl (Fg.trans fy (FrSr.tc z2))) z3⟩
  rw [show setL z 99 1 (lN tm) = setL z 99 (nI 1) (lN tm) from rfl]
  have Sz' : Sr 102 (setL z 99 (nI 1) (lN tm)) T n q1 st := Sz.l
  have fz : FrTC x (setL z 99 (nI 1) (lN tm)) := fl (Fg.trans fy (FrSr.tc z2))
  have z0 : fL (setL z 99 (nI 1) (lN tm)) 99 0 = lN tb := by rw [gL_k (by decide), if_neg (by decide), z2.ll id, y0]
  have z1' : fL (setL z 99 (nI 1) (lN tm)) 99 1 = lN tm := by rw [gL_k (by decide), if_pos rfl]
  generalize setL z 99 (nI 1) (lN tm) = z' at *
  have er : tdR T ty st p = (if tm = 0 then .error 18 else match nm4 T 10000 16 st q1 with
      | .error e => .error e
      | .ok (e, q2) => tdR2 T ty st tb tm e q2) := by unfold tdR; rw [y1]; simp only; rw [z1]; rfl
  rw [show rL z' 99 1 = lN tm from (rL_nI (k := 1) (by decide)).trans z1', lg_cmp_eq, show (0 : Int64) = lN 0 from rfl]
  by_cases c0 : tm = 0
  · rw [if_pos c0] at er
    refine br_t (by rw [c0]) ?_
    unfold j_Opn_readChunkTold_46
    exact r_ck0 18 Sz' (by decide) (by decide) (fun w s1 s2 => k_vrd0 s2.ne ⟨vin (k := 2) (by decide) (Fg.trans fz (FrSr.tc s1)), nm_e ⟨vin (k := 2) (by decide) (fl (k := 2) (Fg.trans fz (FrSr.tc s1))), k_wany (fun _ => k_ckf (o := 102) (x := setL w 99 (nI 2) 0) s2.ne (f8 18 _ er (fl (Fg.trans fz (FrSr.tc s1))) s2))⟩⟩)
  rw [if_neg c0] at er
  refine br_f (fun z => c0 (lN_inj (by omega) (by decide) z)) ?_
  unfold j_Opn_readChunkTold_46
  rw [show stC 96 1 = 102 from rfl, show stC 96 6 = 99 from rfl]
  refine k_ck1 (r_vrd so2 Sz' (fun e u u1 u2 u3 => ⟨vin (k := 2) (by decide) (Fg.trans fz (FrSr.tc u2)), nm_e ⟨vin (k := 2) (by decide) (fl (k := 2) (Fg.trans fz (FrSr.tc u2))), k_wany (fun _ => k_ckf (o := 102) (x := setL u 99 (nI 2) 0) u3.ne (f8 e _ ?_ (fl (Fg.trans fz (FrSr.tc u2))) u3))⟩⟩) (fun te q2 u u1 u2 Su x1 x2 => ⟨vin (k := 2) (by decide) (Fg.trans fz (FrSr.tc u2)), nm_e ⟨vin (k := 2) (by decide) (fl (k := 2) (Fg.trans fz (FrSr.tc u2))), ?_⟩⟩))
  · rw [er]; unfold nm4; rw [u1]
  rw [show setL u 99 2 (lN te) = setL u 99 (nI 2) (lN te) from rfl]
  have Su' : Sr 102 (setL u 99 (nI 2) (lN te)) T n q2 st := Su.l
  have fu : FrTC x (setL u 99 (nI 2) (lN te)) := fl (Fg.trans fz (FrSr.tc u2))
  have u0 : fL (setL u 99 (nI 2) (lN te)) 99 0 = lN tb := by rw [gL_k (by decide), if_neg (by decide), u2.ll id, z0]
  have u1' : fL (setL u 99 (nI 2) (lN te)) 99 1 = lN tm := by rw [gL_k (by decide), if_neg (by decide), u2.ll id, z1']
  have u2' : fL (setL u 99 (nI 2) (lN te)) 99 2 = lN te := by rw [gL_k (by decide), if_pos rfl]
  generalize setL u 99 (nI 2) (lN te) = u' at *
  rw [show rL u' 99 2 = lN te from (rL_nI (k := 2) (by decide)).trans u2', show (10000 : Int64) = lN 10000 from rfl]
  have er2 : tdR T ty st p = (if 10000 < te then .error 16 else tdR2 T ty st tb tm te q2) := by
    rw [er]; unfold nm4; rw [u1]; simp only
    by_cases c : 10000 < te
    · rw [if_pos c, if_pos c]
    · rw [if_neg c, if_neg c]
  refine k_within x1 (by decide) (fun ce => k_ck1 ?_) (fun ce => r_ck0 16 Su' (by decide) (by decide) (fun w s1 s2 => f8 16 w (by rw [er2, if_pos ce]) (Fg.trans fu (FrSr.tc s1)) s2))
  rw [if_neg (by omega)] at er2
  refine r_vrd so2 Su' (fun e v r1 r2 r3 => ⟨vin (k := 3) (by decide) (Fg.trans fu (FrSr.tc r2)), nm_e ⟨vin (k := 3) (by decide) (fl (k := 3) (Fg.trans fu (FrSr.tc r2))), vin (k := 2) (by decide) (fl (k := 3) (Fg.trans fu (FrSr.tc r2))), k_wany (fun _ => k_ckf (o := 102) (x := setL v 99 (nI 3) 0) r3.ne (f13 e _ ?_ (fl (Fg.trans fu (FrSr.tc r2))) r3))⟩⟩) (fun tn q3 v r1 r2 Sv x3 x4 => ⟨vin (k := 3) (by decide) (Fg.trans fu (FrSr.tc r2)), nm_e ⟨vin (k := 3) (by decide) (fl (k := 3) (Fg.trans fu (FrSr.tc r2))), vin (k := 2) (by decide) (fl (k := 3) (Fg.trans fu (FrSr.tc r2))), ?_⟩⟩)
  · rw [er2]; unfold tdR2; rw [r1]
  rw [show setL v 99 3 (lN tn) = setL v 99 (nI 3) (lN tn) from rfl]
  have Sv' : Sr 102 (setL v 99 (nI 3) (lN tn)) T n q3 st := Sv.l
  have fv : FrTC x (setL v 99 (nI 3) (lN tn)) := fl (Fg.trans fu (FrSr.tc r2))
  have v0 : fL (setL v 99 (nI 3) (lN tn)) 99 0 = lN tb := by rw [gL_k (by decide), if_neg (by decide), r2.ll id, u0]
  have v1' : fL (setL v 99 (nI 3) (lN tn)) 99 1 = lN tm := by rw [gL_k (by decide), if_neg (by decide), r2.ll id, u1']
  have v2' : fL (setL v 99 (nI 3) (lN tn)) 99 2 = lN te := by rw [gL_k (by decide), if_neg (by decide), r2.ll id, u2']
  have v3' : fL (setL v 99 (nI 3) (lN tn)) 99 3 = lN tn := by rw [gL_k (by decide), if_pos rfl]
  generalize setL v 99 (nI 3) (lN tn) = v' at *
  have er3 : tdR T ty st p = (if te < tn then .error 7 else if tn = te then .ok ((tb, tm, te, tn, (0, []), (0, [])), q3) else match tld T ty st q3 with
    | .error e => .error e
    | .ok (lo, q1) => match tld T ty st q1 with
      | .error e => .error e
      | .ok (hi, q2) => .ok ((tb, tm, te, tn, lo, hi), q2)) := by rw [er2]; unfold tdR2; rw [r1]; rfl
  rw [show rL v' 99 3 = lN tn from (rL_nI (k := 3) (by decide)).trans v3', show rL v' 99 2 = lN te from (rL_nI (k := 2) (by decide)).trans v2']
  refine k_within x3 (by omega) (fun cn => k_ck1 ?_) (fun cn => r_ck0 7 Sv' (by decide) (by decide) (fun w s1 s2 => f13 7 w (by rw [er3, if_pos cn]) (Fg.trans fv (FrSr.tc s1)) s2))
  rw [if_neg (by omega)] at er3
  refine ⟨vin (k := 3) (by decide) fv, vin (k := 2) (by decide) fv, ?_⟩
  rw [show rL v' 99 3 = lN tn from (rL_nI (k := 3) (by decide)).trans v3', show rL v' 99 2 = lN te from (rL_nI (k := 2) (by decide)).trans v2', lg_cmp_eq]
  by_cases ct : tn = te
  · rw [if_pos ct] at er3
    exact br_t (by rw [ct]) (pk _ _ v' er3 fv Sv' ⟨v0, v1', v2', v3', by show tb < _; omega, w1, fun h => absurd h (by show ¬ tn < te; omega)⟩)
  rw [if_neg ct] at er3
  refine br_f (fun z => ct (lN_inj (by omega) (by omega) z)) (k_tld so2 Sv' hty hb (fun e w s1 s2 s3 r16 => ⟨vin (k := 4) (by decide) (Fg.trans fv (FrSr.tc s2)), nm_e (k_tld0 (o := 102) (x := setL w 99 (nI 4) r16) s3.ne (fun r19 => ⟨vin (k := 5) (by decide) (fl (Fg.trans fv (FrSr.tc s2))), nm_e (pe e _ ?_ (fl (fl (Fg.trans fv (FrSr.tc s2)))) s3)⟩))⟩) (fun lo q4 w r16 s1 s2 Sw s3 => ⟨vin (k := 4) (by decide) (Fg.trans fv (FrSr.tc s2)), nm_e ?_⟩))
  · rw [er3, s1]
  rw [s1] at er3
  simp only at er3
  rw [show setL w 99 4 r16 = setL w 99 (nI 4) r16 from rfl]
  have Sw' : Sr 102 (setL w 99 (nI 4) r16) T n q4 st := Sw.l
  have fw : FrTC x (setL w 99 (nI 4) r16) := fl (Fg.trans fv (FrSr.tc s2))
  have wk : ∀ k, k < 4 → fL (setL w 99 (nI 4) r16) 99 k = fL v' 99 k := fun k hk => by rw [gL_k (by decide), if_neg (by omega), s2.ll id]
  have w4 : fL (setL w 99 (nI 4) r16) 99 4 = r16 := by rw [gL_k (by decide), if_pos rfl]
  have wlo : RfP (setL w 99 (nI 4) r16) b ty r16 lo := s3.same rfl
  generalize setL w 99 (nI 4) r16 = w' at *
  refine k_tld so2 Sw' hty hb (fun e t t1 t2 t3 r19 => ⟨vin (k := 5) (by decide) (Fg.trans fw (FrSr.tc t2)), nm_e (pe e _ (by rw [er3, t1]) (fl (Fg.trans fw (FrSr.tc t2))) t3)⟩) (fun hi q5 t r19 t1 t2 St' t3 => ⟨vin (k := 5) (by decide) (Fg.trans fw (FrSr.tc t2)), nm_e ?_⟩)
  rw [show setL t 99 5 r19 = setL t 99 (nI 5) r19 from rfl]
  have tk : ∀ k, k < 5 → fL (setL t 99 (nI 5) r19) 99 k = fL w' 99 k := fun k hk => by rw [gL_k (by decide), if_neg (by omega), t2.ll id]
  have t5 : fL (setL t 99 (nI 5) r19) 99 5 = r19 := by rw [gL_k (by decide), if_pos rfl]
  refine pk (tb, tm, te, tn, lo, hi) q5 _ (by rw [er3, t1]) (fl (Fg.trans fw (FrSr.tc t2))) St'.l ⟨by rw [tk 0 (by decide), wk 0 (by decide), v0], by rw [tk 1 (by decide), wk 1 (by decide), v1'], by rw [tk 2 (by decide), wk 2 (by decide), v2'], by rw [tk 3 (by decide), wk 3 (by decide), v3'], by show tb < _; omega, w1, fun _ => ⟨?_, ?_⟩⟩
  · rw [tk 4 (by decide), w4]
    exact wlo.same (t2.aa id)
  · rw [t5]
    exact t3.same rfl
end
