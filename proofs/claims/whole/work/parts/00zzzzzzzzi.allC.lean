/-! all values of a field are written, class -/
section
variable {x y : St} {F : List SFd} {W : Nat → Bool} {V : Nat → Int64} {b : Nat} {e : Nat → Nat} {S : Nat → List SEn} {g : Int32} {D d : Nat}
def okWA (F : List SFd) (W : Nat → Bool) (V : Nat → Int64) (b : Nat) (e : Nat → Nat) (D d : Nat) : Prop := ∀ (κ : Nat → Nat) (S : Nat → List SEn) (f dp : Nat) (B : List Nat), (∀ t, SnkId t → κ t ≤ roomOf t) → f < F.length → fKd F f = 2 → upS wOne (fPa F) (nI f) = dp + 1 → 17 ≤ dp + 1 + D → gdL F W f ≠ [] → JG F W S (nI f) → GdS F W S → AppA κ B (91 :: (tlR (tlG vlB F W D) vlB F f (gdc F W f) (S (gdc F W f)).length S ++ [93])) (fun x => TcC x F W V b e S ∧ CuC x F W e S (nI f)) (RgC F W e (rgF F (fPa F f)) S (nI f)) (fun post kb nb x => (wr_Asm_writeAll d).1 post 146 (nI f) (nI dp) kb nb x)
theorem writeAll_of (hw : WfS F) (hO : okWO F W V b e D d) : okWA F W V b e D (d + 1) := by
  intro κ0 S0 f dp B0 hκ0 hf hk hdp hD hgd J0 G0
  have h128 := hw.1
  have h64 := hw.2.1
  obtain ⟨g1, g2, g3⟩ := gdc_ok hgd
  have ic : inG F (nI f) (lfC F (gdc F W f)) := (inG_f hf h128).mpr g3
  have rp := rF_pos hw hf hk
  have r17 := rF_le hw hf
  -- what is read behind a value
  have rd : ∀ y S', JG F W S' (nI f) → GdS F W S' → TcC y F W V b e (fun c => rst (rF F f) (S' c)) ∧ CuC y F W e (fun c => rst (rF F f) (S' c)) (nI f) → ∀ (P0 P1 : Prop), (mrR F f (gdc F W f) S' → P1) → (¬ mrR F f (gdc F W f) S' → P0) → (vp_in (nI f) (fN y 151) ∧ (vp_in (rA y 151 (nI f)) (fN y 150) ∧ (vp_in (rA y 150 (rA y 151 (nI f))) (fN y 83) ∧ (vp_in (nI f) (fN y 74) ∧ ((¬ (rA y 83 (rA y 150 (rA y 151 (nI f)))) = (rA y 74 (nI f)) → P0) ∧ ((rA y 83 (rA y 150 (rA y 151 (nI f)))) = (rA y 74 (nI f)) → P1)))))) := fun y S' J' G' hy P0 P1 p1 p0 => by
    obtain ⟨t, cu⟩ := hy
    have l151 : fN y 151 = 128 := t.1 151 (by decide)
    have l150 : fN y 150 = 64 := t.1 150 (by decide)
    have l83 : fN y 83 = 11001 := t.1 83 (by decide)
    have l74 : fN y 74 = 128 := t.1 74 (by decide)
    have e151 : rA y 151 (nI f) = nI (gdc F W f) := by rw [rA_nI (by omega), t.2.2.2.2.1 f hf, if_neg hgd]
    generalize gdc F W f = c at *
    have e150 : rA y 150 (nI c) = nI (e c - (rst (rF F f) (S' c)).length) := by rw [rA_nI (by omega)]; exact cu c g1 g2 ic
    have e74 : rA y 74 (nI f) = nI (rF F f) := by rw [rA_nI (by omega)]; exact (t.2.1.2.2.2.1 f hf).2.2.2.1
    obtain ⟨a1, a2, a3, a4⟩ := t.2.2.2.2.2 c g1 g2
    have a3 : (rst (rF F f) (S' c)).length ≤ e c := a3
    rw [e151, e150, e74, l151, l150, l83, l74, rA_nI (show e c - (rst (rF F f) (S' c)).length < 2 ^ 31 by omega)]
    refine ⟨vp_in_nI (by omega) (by decide), vp_in_nI (by omega) (by decide), vp_in_nI (by omega) (by decide), vp_in_nI (by omega) (by decide), ?_⟩
    by_cases cn : rst (rF F f) (S' c) = []
    · rw [cn, show e c - ([] : List SEn).length = e c from rfl, a2]
      exact bn_f (fun z => by have := nI_inj (a := 0) (by decide) (by omega) z; omega) (p0 (fun m => m.1 cn))
    · have pos := List.length_pos_iff.mpr cn
      have v1 : fA y 83 (e c - (rst (rF F f) (S' c)).length) = nI (hdR' (rst (rF F f) (S' c))) := by
        have := (a4 0 pos).1
        rw [Nat.add_zero] at this
        exact this
      have h17 : hdR' (rst (rF F f) (S' c)) ≤ 17 := by have := rst_hd cn; omega
      rw [v1]
      by_cases cr : hdR' (rst (rF F f) (S' c)) = rF F f
      · exact bn_t (by rw [cr]) (p1 ⟨cn, cr⟩)
      · exact bn_f (fun z => cr (nI_inj (by omega) (by omega) z)) (p0 (fun m => cr m.2))
  -- from one value on
  have lp : ∀ m i κ S' B, (S' (gdc F W f)).length ≤ m → i + (S' (gdc F W f)).length ≤ 10000 → (∀ t, SnkId t → κ t ≤ roomOf t) → JG F W S' (nI f) → GdS F W S' → AppA κ B (tlR (tlG vlB F W D) vlB F f (gdc F W f) m S' ++ [93]) (fun x => TcC x F W V b e S' ∧ CuC x F W e S' (nI f)) (RgC F W e (rgF F (fPa F f)) S' (nI f)) (fun post kb nb x => wl_Asm_writeAll_14 post (wr_Asm_writeAll d).1 (wr_Asm_writeAll d).2.1 (wr_Asm_writeAll d).2.2 (m + 2) 146 (nI f) (nI dp) 1 (nI i) kb nb x) := by
    intro m
    induction m with
    | zero =>
      intro i κ S' B h1 _ _ J' _
      exact absurd (List.length_pos_iff.mpr (J'.1 _ g1 g2 ic).1) (by omega)
    | succ m ih =>
      intro i κ S' B h1 h2 hκ J' G'
      have pos := List.length_pos_iff.mpr (J'.1 _ g1 g2 ic).1
      have un : tlR (tlG vlB F W D) vlB F f (gdc F W f) (m + 1) S' = tlO (tlG vlB F W D) vlB F f (gdc F W f) S' ++ (if mrR F f (gdc F W f) S' then 44 :: tlR (tlG vlB F W D) vlB F f (gdc F W f) m (fun c => rst (rF F f) (S' c)) else []) := rfl
      have nx := J'.nx hw G' hf hk g1 g2 g3
      have rl := rst_len (r := rF F f) (J'.1 _ g1 g2 ic).1
      have i10 : ¬ (10000 : Int32) ≤ nI i := by (first | omega | (simp (disch := omega) only [Int32.le_iff_toInt_le, Int32.lt_iff_toInt_lt, z_eq, z_in, nI_toInt, z_cl, z_m1, z_sg, z_255, Int32.reduceToInt] <;> omega) | (simp only [Int32.le_iff_toInt_le, Int32.lt_iff_toInt_lt, z_eq, z_in, z_add, z_sub, z_mul, z_neg, z_nI, z_cl, z_sg, z_255, z_lit, Int32.reduceToInt] <;> omega))
      rw [un, List.append_assoc]
      have hP : ∀ x y, SkS x → (TcC x F W V b e S' ∧ CuC x F W e S' (nI f)) → RgC F W e (rF F f) S' (nI f) x y → TcC y F W V b e (fun c => rst (rF F f) (S' c)) ∧ CuC y F W e (fun c => rst (rF F f) (S' c)) (nI f) := fun x y hK hp hr => ⟨(hp.1.fr hK hr.1).rest _, hr.2.1⟩
      by_cases mm : mrR F f (gdc F W f) S'
      · obtain ⟨j1, j2⟩ := nx.1 mm
        rw [if_pos mm]
        have A2 : ∀ (κ1 : Nat → Nat) (B1 : List Nat), (∀ t, SnkId t → κ1 t ≤ roomOf t) → AppA κ1 B1 ([44] ++ (tlR (tlG vlB F W D) vlB F f (gdc F W f) m (fun c => rst (rF F f) (S' c)) ++ [93])) (fun x => TcC x F W V b e (fun c => rst (rF F f) (S' c)) ∧ CuC x F W e (fun c => rst (rF F f) (S' c)) (nI f)) (RgC F W e (rgF F (fPa F f)) (fun c => rst (rF F f) (S' c)) (nI f)) (fun post kb nb x => ∃ k1 n1 k2 n2 : Nat, k1 + k2 = kb ∧ n1 + n2 = nb ∧ wp_Snk_put (fun y => wl_Asm_writeAll_14 post (wr_Asm_writeAll d).1 (wr_Asm_writeAll d).2.1 (wr_Asm_writeAll d).2.2 (m + 2) 146 (nI f) (nI dp) 1 (nI (i + 1)) k2 n2 y) 147 44 k1 n1 x) := fun κ1 B1 h1' => AppA.seq (k_put (b := 44) (w := 44) sn147 h1' (by decide) rfl).as (fun κ2 h2' => ih (i + 1) κ2 _ _ (by show (rst (rF F f) (S' (gdc F W f))).length ≤ m; omega) (by show i + 1 + (rst (rF F f) (S' (gdc F W f))).length ≤ 10000; omega) h2' j1 (G'.rest _)) (fun x y hK hp fy => ⟨hp.1.fr hK (FK.as fy), hp.2.k hK fy⟩) (fun x y z hK hp fy hKy hz => ⟨(FK.as fy).trans hz.1, hz.2.1, (ElC.k hK fy).trans hz.2.2⟩)
        refine (AppA.seq (hO κ S' f dp B hκ hf hdp hD hgd J' G') (fun κ1 h1' => (A2 κ1 _ h1').cg (W2 := fun post kb nb y => (vp_in (nI f) (fN y 151) ∧ (vp_in (rA y 151 (nI f)) (fN y 150) ∧ (vp_in (rA y 150 (rA y 151 (nI f))) (fN y 83) ∧ (vp_in (nI f) (fN y 74) ∧ ((¬ (rA y 83 (rA y 150 (rA y 151 (nI f)))) = (rA y 74 (nI f)) → j_Asm_writeAll_71 post (wr_Asm_writeAll d).1 (wr_Asm_writeAll d).2.1 (wr_Asm_writeAll d).2.2 (wl_Asm_writeAll_14 post (wr_Asm_writeAll d).1 (wr_Asm_writeAll d).2.1 (wr_Asm_writeAll d).2.2 (m + 2)) 146 (nI f) (nI dp) 1 (nI i) 0 kb nb y) ∧ ((rA y 83 (rA y 150 (rA y 151 (nI f)))) = (rA y 74 (nI f)) → j_Asm_writeAll_71 post (wr_Asm_writeAll d).1 (wr_Asm_writeAll d).2.1 (wr_Asm_writeAll d).2.2 (wl_Asm_writeAll_14 post (wr_Asm_writeAll d).1 (wr_Asm_writeAll d).2.1 (wr_Asm_writeAll d).2.2 (m + 2)) 146 (nI f) (nI dp) 1 (nI i) 1 kb nb y))))))) (fun _ _ h => h) (fun _ _ _ _ h => h) (fun post kb nb y _ hp z => rd y S' J' G' hp _ _ (fun _ => ?_) (fun w => absurd mm w))) hP (fun x y z hK hp hr hKy hz => (?_ : RgC F W e (rgF F (fPa F f)) S' (nI f) x z))).cg (fun _ _ h => h) (fun _ _ _ _ h => h) (fun post kb nb x _ _ z => ?_)
        · unfold j_Asm_writeAll_71 j_Asm_writeAll_85
          rw [nI_1, show stC 146 0 = 147 from rfl]
          exact br_f (by decide) z
        · refine ⟨hr.1.trans hz.1, fun c hc wc hi => ?_, hr.2.2.trans hz.2.2⟩
          have := hz.2.1 c hc wc hi
          rw [this]
          show nI (e c - (rst (rgF F (fPa F f)) (rst (rF F f) (S' c))).length) = nI (e c - (rst (rgF F (fPa F f)) (S' c)).length)
          rw [j2 c hc wc ((inG_f hf h128).mp hi)]
        · show j_Asm_writeAll_14 post (wr_Asm_writeAll d).1 (wr_Asm_writeAll d).2.1 (wr_Asm_writeAll d).2.2 (wl_Asm_writeAll_14 post (wr_Asm_writeAll d).1 (wr_Asm_writeAll d).2.1 (wr_Asm_writeAll d).2.2 (m + 2)) 146 (nI f) (nI dp) 1 (nI i) kb nb x
          unfold j_Asm_writeAll_14
          exact br_f i10 (br_f (by decide) z)
      · rw [if_neg mm, List.nil_append]
        refine (AppA.seq (hO κ S' f dp B hκ hf hdp hD hgd J' G') (fun κ1 h1' => (AppA.one (k_put (b := 93) (w := 93) (Pre := fun x => TcC x F W V b e (fun c => rst (rF F f) (S' c)) ∧ CuC x F W e (fun c => rst (rF F f) (S' c)) (nI f)) sn147 h1' (by decide) rfl).as).cg (W2 := fun post kb nb y => (vp_in (nI f) (fN y 151) ∧ (vp_in (rA y 151 (nI f)) (fN y 150) ∧ (vp_in (rA y 150 (rA y 151 (nI f))) (fN y 83) ∧ (vp_in (nI f) (fN y 74) ∧ ((¬ (rA y 83 (rA y 150 (rA y 151 (nI f)))) = (rA y 74 (nI f)) → j_Asm_writeAll_71 post (wr_Asm_writeAll d).1 (wr_Asm_writeAll d).2.1 (wr_Asm_writeAll d).2.2 (wl_Asm_writeAll_14 post (wr_Asm_writeAll d).1 (wr_Asm_writeAll d).2.1 (wr_Asm_writeAll d).2.2 (m + 2)) 146 (nI f) (nI dp) 1 (nI i) 0 kb nb y) ∧ ((rA y 83 (rA y 150 (rA y 151 (nI f)))) = (rA y 74 (nI f)) → j_Asm_writeAll_71 post (wr_Asm_writeAll d).1 (wr_Asm_writeAll d).2.1 (wr_Asm_writeAll d).2.2 (wl_Asm_writeAll_14 post (wr_Asm_writeAll d).1 (wr_Asm_writeAll d).2.1 (wr_Asm_writeAll d).2.2 (m + 2)) 146 (nI f) (nI dp) 1 (nI i) 1 kb nb y))))))) (fun _ _ h => h) (fun _ _ _ _ h => h) (fun post kb nb y _ hp z => rd y S' J' G' hp _ _ (fun w => absurd w mm) (fun _ => ?_))) hP (fun x y z hK hp hr hKy hz => (?_ : RgC F W e (rgF F (fPa F f)) S' (nI f) x z))).cg (fun _ _ h => h) (fun _ _ _ _ h => h) (fun post kb nb x _ _ z => ?_)
        · unfold j_Asm_writeAll_71 j_Asm_writeAll_85
          refine br_t rfl ?_
          show j_Asm_writeAll_14 post (wr_Asm_writeAll d).1 (wr_Asm_writeAll d).2.1 (wr_Asm_writeAll d).2.2 (wl_Asm_writeAll_14 post (wr_Asm_writeAll d).1 (wr_Asm_writeAll d).2.1 (wr_Asm_writeAll d).2.2 (m + 1)) 146 (nI f) (nI dp) 0 (nI i + 1) kb nb y
          have go : j_Asm_writeAll_91 post (wr_Asm_writeAll d).1 (wr_Asm_writeAll d).2.1 (wr_Asm_writeAll d).2.2 146 (nI f) (nI dp) 0 (nI i + 1) kb nb y := z
          unfold j_Asm_writeAll_14
          exact ⟨fun _ => go, fun _ => br_t rfl go⟩
        · have fz : FK 147 y z := hz
          refine ⟨hr.1.trans (FK.as fz), fun c hc wc hi => ?_, hr.2.2.trans (ElC.k hKy fz)⟩
          have := hr.2.1.k hKy fz c hc wc hi
          rw [this]
          show nI (e c - (rst (rF F f) (S' c)).length) = nI (e c - (rst (rgF F (fPa F f)) (S' c)).length)
          rw [nx.2 mm c hc wc ((inG_f hf h128).mp hi)]
        · show j_Asm_writeAll_14 post (wr_Asm_writeAll d).1 (wr_Asm_writeAll d).2.1 (wr_Asm_writeAll d).2.2 (wl_Asm_writeAll_14 post (wr_Asm_writeAll d).1 (wr_Asm_writeAll d).2.1 (wr_Asm_writeAll d).2.2 (m + 2)) 146 (nI f) (nI dp) 1 (nI i) kb nb x
          unfold j_Asm_writeAll_14
          exact br_f i10 (br_f (by decide) z)
  refine AppA.ex hκ0 (Z := (S0 (gdc F W f)).length ≤ 10000) (fun x hp => by have := hp.1.2.2.2.2.2 _ g1 g2; omega) (fun hz => ?_)
  have A := AppA.seq (κ := κ0) (B := B0) (P1 := fun x => TcC x F W V b e S0 ∧ CuC x F W e S0 (nI f)) (R := RgC F W e (rgF F (fPa F f)) S0 (nI f)) (k_put (b := 91) (w := 91) (Pre := fun x => TcC x F W V b e S0 ∧ CuC x F W e S0 (nI f)) sn147 hκ0 (by decide) rfl).as (fun κ2 h2' => (lp (S0 (gdc F W f)).length 0 κ2 S0 _ (Nat.le_refl _) (by omega) h2' J0 G0).cg (W2 := fun post kb nb x => ∃ n, wl_Asm_writeAll_14 post (wr_Asm_writeAll d).1 (wr_Asm_writeAll d).2.1 (wr_Asm_writeAll d).2.2 n 146 (nI f) (nI dp) 1 0 kb nb x) (fun _ _ h => h) (fun _ _ _ _ h => h) (fun _ _ _ _ _ _ z => ⟨_, z⟩)) (fun x y hK hp fy => ⟨hp.1.fr hK (FK.as fy), hp.2.k hK fy⟩) (fun x y z hK hp fy hKy hz => ⟨(FK.as fy).trans hz.1, hz.2.1, (ElC.k hK fy).trans hz.2.2⟩)
  refine A.cg (fun _ _ h => h) (fun _ _ _ _ h => h) (fun post kb nb x _ _ z => ?_)
  show wb_Asm_writeAll post (wr_Asm_writeAll d).1 (wr_Asm_writeAll d).2.1 (wr_Asm_writeAll d).2.2 146 (nI f) (nI dp) kb nb x
  unfold wb_Asm_writeAll
  exact z
end
