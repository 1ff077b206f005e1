/-! a group is written, class -/
section
variable {x y : St} {F : List SFd} {W : Nat → Bool} {V : Nat → Int64} {b : Nat} {e : Nat → Nat} {S : Nat → List SEn} {g : Int32} {D d f : Nat}
theorem fieldC {dp : Nat} {REST : List Nat} {l4 : Int32} {rc : (St → Prop) → Nat → Int32 → Int32 → Nat → Int32 → Int32 → Int32 → Nat → Nat → St → Prop} (hw : WfS F) (hN : NmS F) (hO : okWO F W V b e D d) (hA : okWA F W V b e D d) (hf : f < F.length) (hg : fPa F f = g) (hgd : gdL F W f ≠ []) (hp : dG F (nI f) ≤ hdD (S (gdc F W f))) (J : JG F W S g) (G : GdS F W S) (hdp : upS wOne (fPa F) g = dp) (hD : 17 ≤ dp + 1 + D)
    (AR : ∀ (κ : Nat → Nat) (B : List Nat), (∀ t, SnkId t → κ t ≤ roomOf t) → AppA κ B REST (fun x => TcC x F W V b e S ∧ CuFC x F W e S g (f + 1)) (RgC F W e (rgF F g) S g) (fun post kb nb x => rc post 146 g (nI dp) 70 l4 1 (nI (f + 1)) kb nb x)) :
    ∀ (κ : Nat → Nat) (B : List Nat) (l5 : Int32), (∀ t, SnkId t → κ t ≤ roomOf t) → AppA κ B (tB (fNm F f) ++ ([58] ++ ((if fKd F f = 2 then 91 :: (tlR (tlG vlB F W D) vlB F f (gdc F W f) (S (gdc F W f)).length S ++ [93]) else tlO (tlG vlB F W D) vlB F f (gdc F W f) S) ++ REST))) (fun x => TcC x F W V b e S ∧ CuFC x F W e S g f) (RgC F W e (rgF F g) S g) (fun post kb nb x => j_Asm_writeGroup_126 post (wr_Asm_writeAll d).1 (wr_Asm_writeAll d).2.1 (wr_Asm_writeAll d).2.2 (rc post) 146 g (nI dp) 70 l4 l5 (nI f) kb nb x) := by
  intro κ B l5 hκ
  have h128 := hw.1
  obtain ⟨g1, g2, g3⟩ := gdc_ok hgd
  have Jf := J.kid hw hf hg g1 g2 g3 hp
  have n16 := (hw.2.2.2.1 f hf).2.2.2.2
  have er := rg_f hw hf
  have dpf : upS wOne (fPa F) (nI f) = dp + 1 := by
    rw [upS_at (w := wOne) hw.2.2.1 hf, hg, hdp]
    show 1 + dp = dp + 1
    omega
  have tl : (tB (fNm F f)).length = (fNm F f).length := List.length_map ..
  have comp : ∀ x y z, SkS x → FK 147 x y → RgC F W e (rgF F g) S g y z → RgC F W e (rgF F g) S g x z := fun x y z hK fy hz => ⟨(FK.as fy).trans hz.1, hz.2.1, (ElC.k hK fy).trans hz.2.2⟩
  have pk : ∀ x y, SkS x → (TcC x F W V b e S ∧ CuFC x F W e S g f) → FK 147 x y → TcC y F W V b e S ∧ CuFC y F W e S g f := fun x y hK hp fy => ⟨hp.1.fr hK (FK.as fy), hp.2.k hK fy⟩
  -- values, and what comes behind them
  have A3 : ∀ (κ : Nat → Nat) (B : List Nat), (∀ t, SnkId t → κ t ≤ roomOf t) → AppA κ B ((if fKd F f = 2 then 91 :: (tlR (tlG vlB F W D) vlB F f (gdc F W f) (S (gdc F W f)).length S ++ [93]) else tlO (tlG vlB F W D) vlB F f (gdc F W f) S) ++ REST) (fun x => TcC x F W V b e S ∧ CuFC x F W e S g f) (RgC F W e (rgF F g) S g) (fun post kb nb x => (vp_in (nI f) (fN x 71) ∧ ((¬ (rA x 71 (nI f)) = 2 → (∃ k12 n13 k14 n15 : Nat, k12 + k14 = kb ∧ n13 + n15 = nb ∧ (wr_Asm_writeAll d).2.2 (fun (x16 : St) => j_Asm_writeGroup_189 post (wr_Asm_writeAll d).1 (wr_Asm_writeAll d).2.1 (wr_Asm_writeAll d).2.2 (rc post) 146 g (nI dp) 70 l4 1 (nI f) k14 n15 x16) 146 (nI f) (nI dp) k12 n13 x)) ∧ ((rA x 71 (nI f)) = 2 → (∃ k17 n18 k19 n20 : Nat, k17 + k19 = kb ∧ n18 + n20 = nb ∧ (wr_Asm_writeAll d).1 (fun (x21 : St) => j_Asm_writeGroup_189 post (wr_Asm_writeAll d).1 (wr_Asm_writeAll d).2.1 (wr_Asm_writeAll d).2.2 (rc post) 146 g (nI dp) 70 l4 1 (nI f) k19 n20 x21) 146 (nI f) (nI dp) k17 n18 x))))) := fun κ B hκ => by
    have AR' : ∀ (κ : Nat → Nat) (B : List Nat), (∀ t, SnkId t → κ t ≤ roomOf t) → AppA κ B REST (fun x => TcC x F W V b e S ∧ CuFC x F W e S g (f + 1)) (RgC F W e (rgF F g) S g) (fun post kb nb x => j_Asm_writeGroup_189 post (wr_Asm_writeAll d).1 (wr_Asm_writeAll d).2.1 (wr_Asm_writeAll d).2.2 (rc post) 146 g (nI dp) 70 l4 1 (nI f) kb nb x) := fun κ B hκ => (AR κ B hκ).cg (fun _ _ h => h) (fun _ _ _ _ h => h) (fun post kb nb x _ _ z => by
      unfold j_Asm_writeGroup_189
      rw [nI_1]
      exact z)
    have hP : ∀ x y, SkS x → (TcC x F W V b e S ∧ CuFC x F W e S g f) → RgC F W e (rgF F g) S (nI f) x y → TcC y F W V b e S ∧ CuFC y F W e S g (f + 1) := fun x y hK hp hr => ⟨hp.1.fr hK hr.1, hp.2.step hw hf hg hr.2.1 hr.2.2⟩
    have hR : ∀ x y z, SkS x → (TcC x F W V b e S ∧ CuFC x F W e S g f) → RgC F W e (rgF F g) S (nI f) x y → SkS y → RgC F W e (rgF F g) S g y z → RgC F W e (rgF F g) S g x z := fun x y z _ _ hr _ hz => ⟨hr.1.trans hz.1, hz.2.1, (hr.2.2.up hw hf hg).trans hz.2.2⟩
    have rd : ∀ x, TcC x F W V b e S → vp_in (nI f) (fN x 71) ∧ rA x 71 (nI f) = fKd F f := fun x t => by
      have l71 : fN x 71 = 128 := t.1 71 (by decide)
      exact ⟨by rw [l71]; exact vp_in_nI (by omega) (by decide), by rw [rA_nI (by omega)]; exact (t.2.1.2.2.2.1 f hf).1⟩
    by_cases hk : fKd F f = 2
    · rw [if_pos hk]
      have A := hA κ S f dp B hκ hf hk dpf hD hgd Jf G
      rw [hg] at A
      refine (AppA.seq (A.cg (P2 := fun x => TcC x F W V b e S ∧ CuFC x F W e S g f) (fun x _ hp => ⟨hp.1, hp.2.at hw hf hg⟩) (fun _ _ _ _ h => h) (fun _ _ _ _ _ _ h => h)) (fun κ1 h1 => AR' κ1 _ h1) hP hR).cg (fun _ _ h => h) (fun _ _ _ _ h => h) (fun post kb nb x _ hp z => ?_)
      obtain ⟨r1, r2⟩ := rd x hp.1
      exact ⟨r1, bn_t (r2.trans hk) z⟩
    · rw [if_neg hk]
      have A := hO κ S f dp B hκ hf dpf hD hgd Jf G
      have w0 : wRep (fKd F) f = 0 := if_neg hk
      rw [hg] at er
      rw [show rF F f = rgF F g by omega] at A
      refine (AppA.seq (A.cg (P2 := fun x => TcC x F W V b e S ∧ CuFC x F W e S g f) (fun x _ hp => ⟨hp.1, hp.2.at hw hf hg⟩) (fun _ _ _ _ h => h) (fun _ _ _ _ _ _ h => h)) (fun κ1 h1 => AR' κ1 _ h1) hP hR).cg (fun _ _ h => h) (fun _ _ _ _ h => h) (fun post kb nb x _ hp z => ?_)
      obtain ⟨r1, r2⟩ := rd x hp.1
      exact ⟨r1, bn_f (fun w => hk (r2.symm.trans w)) z⟩
  have A2 := fun (κ : Nat → Nat) (B : List Nat) (hκ : ∀ t, SnkId t → κ t ≤ roomOf t) => AppA.seq (κ := κ) (B := B) (P1 := fun x => TcC x F W V b e S ∧ CuFC x F W e S g f) (R := RgC F W e (rgF F g) S g) (k_put (b := 58) (w := 58) (Pre := fun x => TcC x F W V b e S ∧ CuFC x F W e S g f) sn147 hκ (by decide) rfl).as (fun κ1 h1 => A3 κ1 _ h1) pk (fun x y z hK _ fy _ hz => comp x y z hK fy hz)
  have AN := (k_putAll (κ := κ) (s := 147) (r := 81) (a := f * 16) (B := B) (C := tB (fNm F f)) sn147 hκ (by omega) (by omega)).as.cg (P2 := fun x => TcC x F W V b e S ∧ CuFC x F W e S g f) (R2 := FK 147) (fun x hK hp => ?_) (fun _ _ _ _ h => h) (fun _ _ _ _ _ _ h => h)
  · refine (AppA.seq AN (fun κ1 h1 => A2 κ1 _ h1) pk (fun x y z hK _ fy _ hz => comp x y z hK fy hz)).cg (fun _ _ h => h) (fun _ _ _ _ h => h) (fun post kb nb x _ hp z => ?_)
    have l80 : fN x 80 = 128 := hp.1.1 80 (by decide)
    have e80 : rA x 80 (nI f) = nI (tB (fNm F f)).length := by rw [rA_nI (by omega), tl]; exact (hp.1.2.1.2.2.2.1 f hf).2.2.2.2.2.2.2.2.1
    show j_Asm_writeGroup_126 post (wr_Asm_writeAll d).1 (wr_Asm_writeAll d).2.1 (wr_Asm_writeAll d).2.2 (rc post) 146 g (nI dp) 70 l4 l5 (nI f) kb nb x
    unfold j_Asm_writeGroup_126
    rw [show stC 70 11 = 80 from rfl, show stC 70 12 = 81 from rfl, show stC 70 2 = 71 from rfl, show stC 146 0 = 147 from rfl, l80, e80, show nI f * 16 = nI (f * 16) from by rw [show (16 : Int32) = nI 16 from rfl, nI_mul]]
    exact ⟨vp_in_nI (by omega) (by decide), z⟩
  · have l81 : fN x 81 = 2048 := hp.1.1 81 (by decide)
    refine ⟨⟨by rw [l81, tl]; omega, by rw [l81]; decide, fun c hc => ?_, fun i hi => ?_⟩, Or.inl (by decide), stRow_ne sn147 hK (st_vl (by decide) (by decide))⟩
    · obtain ⟨w, w1, w2⟩ := List.mem_map.mp hc
      obtain ⟨i, i1, i2⟩ := List.mem_iff_getElem.mp w1
      have := hN f hf i i1
      rw [List.getD_eq_getElem?_getD, List.getElem?_eq_getElem i1] at this
      rw [← w2, ← i2]
      exact uI_by this
    · rw [tl] at hi
      have : (tB (fNm F f)).getD i 0 = uI ((fNm F f).getD i 0) := by
        unfold tB
        rw [List.getD_eq_getElem?_getD, List.getElem?_map, List.getD_eq_getElem?_getD, List.getElem?_eq_getElem hi]
        rfl
      rw [this, nI_uI, show f * 16 + i = 16 * f + i by omega]
      exact (hp.1.2.1.2.2.2.1 f hf).2.2.2.2.2.2.2.2.2 i hi
end
