/-! a group is written, class: the method -/
section
variable {x y : St} {F : List SFd} {W : Nat → Bool} {V : Nat → Int64} {b : Nat} {e : Nat → Nat} {S : Nat → List SEn} {g : Int32} {D d f : Nat}
theorem groupL {dp stop : Nat} (hw : WfS F) (hN : NmS F) (hO : okWO F W V b e D d) (hA : okWA F W V b e D d) (hgr : g = -1 ∨ ∃ f, f < F.length ∧ g = nI f ∧ fTy F f = 4) (hdp : upS wOne (fPa F) g = dp) (hD : 17 ≤ dp + 1 + D) (hst : stop ≤ F.length) (hch : ∀ h, h < F.length → fPa F h = g → h < stop) (J : JG F W S g) (G : GdS F W S) :
    ∀ m f sm κ B, f + m = stop → (∀ t, SnkId t → κ t ≤ roomOf t) → AppA κ B (tlF (tlG vlB F W D) vlB F W g S m f sm ++ [125]) (fun x => TcC x F W V b e S ∧ CuFC x F W e S g f) (RgC F W e (rgF F g) S g) (fun post kb nb x => wl_Asm_writeGroup_41 post (wr_Asm_writeAll d).1 (wr_Asm_writeAll d).2.1 (wr_Asm_writeAll d).2.2 (m + 1) 146 g (nI dp) 70 (nI stop) (if sm = true then 1 else 0) (nI f) kb nb x) := by
  have h128 := hw.1
  have h64 := hw.2.1
  intro m
  induction m with
  | zero =>
    intro f sm κ B hfm hκ
    have ef : f = stop := by omega
    rw [show tlF (tlG vlB F W D) vlB F W g S 0 f sm = [] from rfl, List.nil_append]
    refine (AppA.one (k_put (b := 125) (w := 125) (Pre := fun x => TcC x F W V b e S ∧ CuFC x F W e S g f) sn147 hκ (by decide) rfl).as).cg (fun _ _ h => h) (fun x y hK hp fy => ⟨FK.as fy, fun c hc wc hi => ?_, ElC.k hK fy⟩) (fun post kb nb x _ hp z => ?_)
    · rw [(fk_row sn147 st150 hK fy).1]
      obtain ⟨h, h1, h2, h3⟩ := kid_ex hw _ (lfC_ok hc).1 hi (fun w => by
        rcases hgr with z' | ⟨f', z1, z2, z3⟩
        · rw [z'] at w; exact nI_nm1 (by have := (lfC_ok hc).1; omega) w.symm
        · rw [z2] at w
          have := nI_inj (by omega) (by have := (lfC_ok hc).1; omega) w
          exact (lfC_ok hc).2.1 (by rw [← this]; exact z3))
      exact hp.2.2 c hc wc ⟨h, by rw [ef]; exact hch h h1 h2, h2, h3⟩
    · show j_Asm_writeGroup_41 post (wr_Asm_writeAll d).1 (wr_Asm_writeAll d).2.1 (wr_Asm_writeAll d).2.2 _ 146 g (nI dp) 70 (nI stop) (if sm = true then 1 else 0) (nI f) kb nb x
      unfold j_Asm_writeGroup_41
      exact br_t (by (first | omega | (simp (disch := omega) only [Int32.le_iff_toInt_le, Int32.lt_iff_toInt_lt, z_eq, z_in, nI_toInt, z_cl, z_m1, z_sg, z_255, Int32.reduceToInt] <;> omega) | (simp only [Int32.le_iff_toInt_le, Int32.lt_iff_toInt_lt, z_eq, z_in, z_add, z_sub, z_mul, z_neg, z_nI, z_cl, z_sg, z_255, z_lit, Int32.reduceToInt] <;> omega))) z
  | succ m ih =>
    intro f sm κ B hfm hκ
    have hf : f < F.length := by omega
    have un : tlF (tlG vlB F W D) vlB F W g S (m + 1) f sm = if fPa F f ≠ g ∨ gdL F W f = [] ∨ hdD (S (gdc F W f)) < dG F (nI f) then tlF (tlG vlB F W D) vlB F W g S m (f + 1) sm else (if sm then [44] else []) ++ tB (fNm F f) ++ [58] ++ (if fKd F f = 2 then 91 :: (tlR (tlG vlB F W D) vlB F f (gdc F W f) (S (gdc F W f)).length S ++ [93]) else tlO (tlG vlB F W D) vlB F f (gdc F W f) S) ++ tlF (tlG vlB F W D) vlB F W g S m (f + 1) true := rfl
    rw [un]
    -- what is read
    have l73 : ∀ x, TcC x F W V b e S → fN x 73 = 128 ∧ fN x 151 = 128 ∧ fN x 150 = 64 ∧ fN x 84 = 11001 ∧ fN x 75 = 128 := fun x t => ⟨t.1 73 (by decide), t.1 151 (by decide), t.1 150 (by decide), t.1 84 (by decide), t.1 75 (by decide)⟩
    have e73 : ∀ x, TcC x F W V b e S → rA x 73 (nI f) = fPa F f := fun x t => by rw [rA_nI (by omega)]; exact (t.2.1.2.2.2.1 f hf).2.2.1
    have e151 : ∀ x, TcC x F W V b e S → rA x 151 (nI f) = if gdL F W f = [] then -1 else nI (gdc F W f) := fun x t => by rw [rA_nI (by omega)]; exact t.2.2.2.2.1 f hf
    -- the method's step
    have stp : ∀ post kb nb x, TcC x F W V b e S → ∀ l5 : Int32, (fPa F f ≠ g → j_Asm_writeGroup_189 post (wr_Asm_writeAll d).1 (wr_Asm_writeAll d).2.1 (wr_Asm_writeAll d).2.2 (wl_Asm_writeGroup_41 post (wr_Asm_writeAll d).1 (wr_Asm_writeAll d).2.1 (wr_Asm_writeAll d).2.2 (m + 1)) 146 g (nI dp) 70 (nI stop) l5 (nI f) kb nb x) → (fPa F f = g → gdL F W f = [] → j_Asm_writeGroup_189 post (wr_Asm_writeAll d).1 (wr_Asm_writeAll d).2.1 (wr_Asm_writeAll d).2.2 (wl_Asm_writeGroup_41 post (wr_Asm_writeAll d).1 (wr_Asm_writeAll d).2.1 (wr_Asm_writeAll d).2.2 (m + 1)) 146 g (nI dp) 70 (nI stop) l5 (nI f) kb nb x) → (fPa F f = g → gdL F W f ≠ [] → (vp_in (nI (gdc F W f)) 64 ∧ (vp_in (rA x 150 (nI (gdc F W f))) 11001 ∧ (((rA x 75 (nI f)) ≤ (rA x 84 (rA x 150 (nI (gdc F W f)))) → ((l5 = 0 → j_Asm_writeGroup_126 post (wr_Asm_writeAll d).1 (wr_Asm_writeAll d).2.1 (wr_Asm_writeAll d).2.2 (wl_Asm_writeGroup_41 post (wr_Asm_writeAll d).1 (wr_Asm_writeAll d).2.1 (wr_Asm_writeAll d).2.2 (m + 1)) 146 g (nI dp) 70 (nI stop) l5 (nI f) kb nb x) ∧ (¬ l5 = 0 → (∃ k32 n33 k34 n35 : Nat, k32 + k34 = kb ∧ n33 + n35 = nb ∧ wp_Snk_put (fun (x36 : St) => j_Asm_writeGroup_126 post (wr_Asm_writeAll d).1 (wr_Asm_writeAll d).2.1 (wr_Asm_writeAll d).2.2 (wl_Asm_writeGroup_41 post (wr_Asm_writeAll d).1 (wr_Asm_writeAll d).2.1 (wr_Asm_writeAll d).2.2 (m + 1)) 146 g (nI dp) 70 (nI stop) l5 (nI f) k34 n35 x36) 147 44 k32 n33 x)))) ∧ (¬ (rA x 75 (nI f)) ≤ (rA x 84 (rA x 150 (nI (gdc F W f)))) → wp_Asm_passBy (fun (x37 : St) => j_Asm_writeGroup_189 post (wr_Asm_writeAll d).1 (wr_Asm_writeAll d).2.1 (wr_Asm_writeAll d).2.2 (wl_Asm_writeGroup_41 post (wr_Asm_writeAll d).1 (wr_Asm_writeAll d).2.1 (wr_Asm_writeAll d).2.2 (m + 1)) 146 g (nI dp) 70 (nI stop) l5 (nI f) kb nb x37) 146 (nI f) x))))) → wl_Asm_writeGroup_41 post (wr_Asm_writeAll d).1 (wr_Asm_writeAll d).2.1 (wr_Asm_writeAll d).2.2 (m + 1 + 1) 146 g (nI dp) 70 (nI stop) l5 (nI f) kb nb x := fun post kb nb x t l5 p1 p2 p3 => by
      obtain ⟨q1, q2, q3, q4, q5⟩ := l73 x t
      show j_Asm_writeGroup_41 post (wr_Asm_writeAll d).1 (wr_Asm_writeAll d).2.1 (wr_Asm_writeAll d).2.2 (wl_Asm_writeGroup_41 post (wr_Asm_writeAll d).1 (wr_Asm_writeAll d).2.1 (wr_Asm_writeAll d).2.2 (m + 1)) 146 g (nI dp) 70 (nI stop) l5 (nI f) kb nb x
      unfold j_Asm_writeGroup_41
      rw [show stC 70 4 = 73 from rfl, show stC 146 3 = 151 from rfl, show stC 146 2 = 150 from rfl, show stC 146 1 = 97 from rfl, show stC 97 8 = 84 from rfl, show stC 70 6 = 75 from rfl, show stC 146 0 = 147 from rfl, q1, q2, q3, q4, q5, e73 x t, e151 x t]
      refine br_f (by (first | omega | (simp (disch := omega) only [Int32.le_iff_toInt_le, Int32.lt_iff_toInt_lt, z_eq, z_in, nI_toInt, z_cl, z_m1, z_sg, z_255, Int32.reduceToInt] <;> omega) | (simp only [Int32.le_iff_toInt_le, Int32.lt_iff_toInt_lt, z_eq, z_in, z_add, z_sub, z_mul, z_neg, z_nI, z_cl, z_sg, z_255, z_lit, Int32.reduceToInt] <;> omega))) ⟨vp_in_nI (by omega) (by decide), ?_⟩
      by_cases cg : fPa F f = g
      · refine bn_t cg ⟨vp_in_nI (by omega) (by decide), ?_⟩
        by_cases cl : gdL F W f = []
        · rw [if_pos cl]
          exact bn_t rfl (p2 cg cl)
        · rw [if_neg cl]
          have gl := (gdc_ok cl).1
          obtain ⟨r1, r2, r3⟩ := p3 cg cl
          exact bn_f (nI_nm1 (by omega)) ⟨vp_in_nI (by omega) (by decide), r1, r2, vp_in_nI (by omega) (by decide), r3⟩
      · exact bn_f cg (p1 cg)
    by_cases hs : fPa F f ≠ g ∨ gdL F W f = []
    · -- none of the group's, or none that is wanted
      rw [if_pos (hs.elim Or.inl (fun z => Or.inr (Or.inl z)))]
      refine (ih (f + 1) sm κ B (by omega) hκ).cg (fun x _ hp => ⟨hp.1, hp.2.skip (fun z => hs.elim (fun w => absurd z w) id)⟩) (fun _ _ _ _ h => h) (fun post kb nb x _ hp z => ?_)
      have go : j_Asm_writeGroup_189 post (wr_Asm_writeAll d).1 (wr_Asm_writeAll d).2.1 (wr_Asm_writeAll d).2.2 (wl_Asm_writeGroup_41 post (wr_Asm_writeAll d).1 (wr_Asm_writeAll d).2.1 (wr_Asm_writeAll d).2.2 (m + 1)) 146 g (nI dp) 70 (nI stop) (if sm = true then 1 else 0) (nI f) kb nb x := by
        unfold j_Asm_writeGroup_189
        rw [nI_1]
        exact z
      exact stp post kb nb x hp.1 _ (fun _ => go) (fun _ _ => go) (fun a b => (hs.elim (fun w => absurd a w) (fun w => absurd w b)))
    have cg : fPa F f = g := Classical.byContradiction (fun z => hs (Or.inl z))
    have hgd : gdL F W f ≠ [] := fun z => hs (Or.inr z)
    obtain ⟨g1, g2, g3⟩ := gdc_ok hgd
    have icf : inG F (nI f) (lfC F (gdc F W f)) := (inG_f hf h128).mpr g3
    have ig : inG F g (lfC F (gdc F W f)) := by rw [← cg]; exact inG_up hw hf (lfC_ok g1).1 g3
    have ne := (J.1 _ g1 g2 ig).1
    have pos := List.length_pos_iff.mpr ne
    have d17 : dG F (nI f) ≤ 17 := dG_le hw (Or.inr ⟨f, hf, rfl⟩)
    have h17 : hdD (S (gdc F W f)) ≤ 17 := by
      have mem : (S (gdc F W f)).getD 0 en0 ∈ S (gdc F W f) := by rw [en_at pos]; exact List.getElem_mem pos
      obtain ⟨⟨-, -, r3, -⟩, r4⟩ := (G _ g1 g2).2 _ mem
      rw [r4] at r3
      have : mdC F (gdc F W f) ≤ 17 := dG_le hw (Or.inr ⟨_, (lfC_ok g1).1, rfl⟩)
      show ((S (gdc F W f)).getD 0 en0).2.2.1 ≤ 17
      omega
    have rd : ∀ x, (TcC x F W V b e S ∧ CuFC x F W e S g f) → vp_in (nI (gdc F W f)) 64 ∧ vp_in (rA x 150 (nI (gdc F W f))) 11001 ∧ rA x 75 (nI f) = nI (dG F (nI f)) ∧ rA x 84 (rA x 150 (nI (gdc F W f))) = nI (hdD (S (gdc F W f))) := fun x hp => by
      obtain ⟨a1, a2, a3, a4⟩ := hp.1.2.2.2.2.2 _ g1 g2
      have cu : rA x 150 (nI (gdc F W f)) = nI (e (gdc F W f) - (S (gdc F W f)).length) := by rw [rA_nI (by omega)]; exact (hp.2.at hw hf cg) _ g1 g2 icf
      rw [cu, rA_nI (by omega), rA_nI (by omega)]
      refine ⟨vp_in_nI (by omega) (by decide), vp_in_nI (by omega) (by decide), (hp.1.2.1.2.2.2.1 f hf).2.2.2.2.1, ?_⟩
      have := (a4 0 pos).2.1
      rw [Nat.add_zero] at this
      exact this
    by_cases cp : dG F (nI f) ≤ hdD (S (gdc F W f))
    · rw [if_neg (fun z => z.elim (fun w => w cg) (fun w => w.elim hgd (fun v => by omega)))]
      have AF := fieldC (REST := tlF (tlG vlB F W D) vlB F W g S m (f + 1) true ++ [125]) (l4 := nI stop) (rc := fun post => wl_Asm_writeGroup_41 post (wr_Asm_writeAll d).1 (wr_Asm_writeAll d).2.1 (wr_Asm_writeAll d).2.2 (m + 1)) hw hN hO hA hf cg hgd cp J G hdp hD (fun κ B hκ => ih (f + 1) true κ B (by omega) hκ)
      cases sm with
      | false =>
        rw [show (if false = true then [44] else [] : List Nat) = [] from rfl, List.nil_append]
        simp only [List.append_assoc]
        refine (AF κ B 0 hκ).cg (fun _ _ h => h) (fun _ _ _ _ h => h) (fun post kb nb x _ hp z => ?_)
        obtain ⟨r1, r2, r3, r4⟩ := rd x hp
        refine stp post kb nb x hp.1 0 (fun w => absurd cg w) (fun _ w => absurd w hgd) (fun _ _ => ⟨r1, r2, ?_⟩)
        rw [r3, r4]
        exact br_t (by (first | omega | (simp (disch := omega) only [Int32.le_iff_toInt_le, Int32.lt_iff_toInt_lt, z_eq, z_in, nI_toInt, z_cl, z_m1, z_sg, z_255, Int32.reduceToInt] <;> omega) | (simp only [Int32.le_iff_toInt_le, Int32.lt_iff_toInt_lt, z_eq, z_in, z_add, z_sub, z_mul, z_neg, z_nI, z_cl, z_sg, z_255, z_lit, Int32.reduceToInt] <;> omega))) (br_t rfl z)
      | true =>
        rw [show (if true = true then [44] else [] : List Nat) = [44] from rfl]
        simp only [List.append_assoc]
        refine (AppA.seq (R := RgC F W e (rgF F g) S g) (k_put (b := 44) (w := 44) (Pre := fun x => TcC x F W V b e S ∧ CuFC x F W e S g f) sn147 hκ (by decide) rfl).as (fun κ1 h1 => AF κ1 _ 1 h1) (fun x y hK hp fy => ⟨hp.1.fr hK (FK.as fy), hp.2.k hK fy⟩) (fun x y z hK _ fy _ hz => ⟨(FK.as fy).trans hz.1, hz.2.1, (ElC.k hK fy).trans hz.2.2⟩)).cg (fun _ _ h => h) (fun _ _ _ _ h => h) (fun post kb nb x _ hp z => ?_)
        obtain ⟨r1, r2, r3, r4⟩ := rd x hp
        refine stp post kb nb x hp.1 1 (fun w => absurd cg w) (fun _ w => absurd w hgd) (fun _ _ => ⟨r1, r2, ?_⟩)
        rw [r3, r4]
        exact br_t (by (first | omega | (simp (disch := omega) only [Int32.le_iff_toInt_le, Int32.lt_iff_toInt_lt, z_eq, z_in, nI_toInt, z_cl, z_m1, z_sg, z_255, Int32.reduceToInt] <;> omega) | (simp only [Int32.le_iff_toInt_le, Int32.lt_iff_toInt_lt, z_eq, z_in, z_add, z_sub, z_mul, z_neg, z_nI, z_cl, z_sg, z_255, z_lit, Int32.reduceToInt] <;> omega))) (br_f (by decide) z)
    · -- it has no value
      rw [if_pos (Or.inr (Or.inr (by omega)))]
      refine AppA.firstQ (fun x u => SkS u ∧ (∀ κ, Caps x κ → Caps u κ) ∧ (∀ B, Snk x 147 B → Snk u 147 B) ∧ FAs x u ∧ ∀ c, c < ncol F → fA u 150 c = if dsc F f (lfC F c) then fA x 150 c + 1 else fA x 150 c) (ih (f + 1) sm κ B (by omega) hκ) (fun x u hK hp ⟨u1, u2, u3, u4, u5⟩ => ?_) (fun post kb nb x hK hp z => ?_)
      · have cu := hp.2.at hw hf cg
        have el : ElC x u F W (nI f) := fun c hc wc hn => by rw [u5 c hc, if_neg (fun w => hn ((inG_f hf h128).mpr w))]
        refine ⟨u1, u2 κ, u3 B, ⟨hp.1.fr hK u4, hp.2.step hw hf cg (fun c hc wc hi => ?_) el⟩, fun y hy => ⟨u4.trans hy.1, hy.2.1, (el.up hw hf cg).trans hy.2.2⟩⟩
        have dc := (inG_f hf h128).mp hi
        have icg : inG F g (lfC F c) := by rw [← cg]; exact inG_up hw hf (lfC_ok hc).1 dc
        have pc := List.length_pos_iff.mpr (J.1 c hc wc icg).1
        have le := (hp.1.2.2.2.2.2 c hc wc).2.2.1
        show fA u 150 c = nI (e c - (rst (rgF F g) (S c)).length)
        rw [u5 c hc, if_pos dc, cu c hc wc hi, J.gone hw G hf cg g1 g2 g3 (by omega) hc wc dc, List.length_drop, nI_1]
        congr 1
        omega
      · obtain ⟨r1, r2, r3, r4⟩ := rd x hp
        refine stp post kb nb x hp.1 _ (fun w => absurd cg w) (fun _ w => absurd w hgd) (fun _ _ => ⟨r1, r2, ?_⟩)
        rw [r3, r4]
        refine br_f (by (first | omega | (simp (disch := omega) only [Int32.le_iff_toInt_le, Int32.lt_iff_toInt_lt, z_eq, z_in, nI_toInt, z_cl, z_m1, z_sg, z_255, Int32.reduceToInt] <;> omega) | (simp only [Int32.le_iff_toInt_le, Int32.lt_iff_toInt_lt, z_eq, z_in, z_add, z_sub, z_mul, z_neg, z_nI, z_cl, z_sg, z_255, z_lit, Int32.reduceToInt] <;> omega))) (k_passBy hw hK hp.1.1 hp.1.2.1 hf (fun u u1 u2 u3 u4 u5 => ?_))
        unfold j_Asm_writeGroup_189
        rw [nI_1]
        exact z u ⟨u1, u2, u3, u4, u5⟩
theorem writeGroup_of (hw : WfS F) (hN : NmS F) (hO : okWO F W V b e D d) (hA : okWA F W V b e D d) : okWG F W V b e (D + 1) (d + 1) := by
  intro κ S g dp B hκ hgr hdp hD J G
  have h128 := hw.1
  have d16 : dp ≤ 16 := by
    rw [← hdp]
    rcases hgr with z | ⟨f, f1, f2, f3⟩
    · rw [z, show upS wOne (fPa F) (-1) = 0 from rfl]; exact Nat.zero_le _
    · rw [f2]; exact hw.2.2.2.2.2.1 f f1 f3
  -- where it begins and ends
  obtain ⟨fs, st, q1, q2, q3, q4, q5, q6⟩ : ∃ fs st : Nat, fs ≤ st ∧ st ≤ F.length ∧ (∀ h, h < F.length → fPa F h = g → h < st) ∧ (∀ h, h < fs → fPa F h ≠ g) ∧ (∀ x (post : Int32 → St → Prop), TcC x F W V b e S → post (nI st) x → wp_Sch_pastOf post 70 g x) ∧ ∀ x (post : Int32 → St → Prop), post (nI fs) x → wp_Sch_firstIn post 70 g x := by
    rcases hgr with z | ⟨f, f1, f2, f3⟩
    · refine ⟨0, F.length, Nat.zero_le _, Nat.le_refl _, fun h hh _ => hh, fun h hh => absurd hh (Nat.not_lt_zero _), fun x post t p => ?_, fun x post p => ?_⟩
      · unfold wp_Sch_pastOf
        rw [t.2.1.1]
        exact bn_t z p
      · unfold wp_Sch_firstIn
        exact bn_t z p
    · have gt := pB_gt hw f1
      refine ⟨f + 1, pB F f, gt, pB_le f1, fun h hh e1 => ?_, fun h hh e1 => ?_, fun x post t p => ?_, fun x post p => ?_⟩
      · rcases hw.2.2.1.2 h hh with z | ⟨v, v1, v2⟩
        · rw [z, f2] at e1; exact absurd e1.symm (nI_nm1 (by omega))
        · rw [v2, f2] at e1
          have ev := nI_inj (by omega) (by omega) e1
          subst ev
          exact ((dsc_iff hw f1 hh).mp (dsc_in hw hh v1 v2 (dsc_self hw f1))).2
      · rcases hw.2.2.1.2 h (by omega) with z | ⟨v, v1, v2⟩
        · rw [z, f2] at e1; exact absurd e1.symm (nI_nm1 (by omega))
        · rw [v2, f2] at e1
          have ev := nI_inj (by omega) (by omega) e1
          omega
      · have l77 : fN x 77 = 128 := t.1 77 (by decide)
        have e77 : rA x 77 (nI f) = nI (pB F f) := by rw [rA_nI (by omega)]; exact (t.2.1.2.2.2.1 f f1).2.2.2.2.2.2.1
        unfold wp_Sch_pastOf
        rw [show stC 70 8 = 77 from rfl, f2, l77, e77]
        exact bn_f (nI_nm1 (by omega)) ⟨vp_in_nI (by omega) (by decide), p⟩
      · unfold wp_Sch_firstIn
        rw [f2, nI_1]
        exact bn_f (nI_nm1 (by omega)) p
  have tx : tlG vlB F W (D + 1) g S = [123] ++ (tlF (tlG vlB F W D) vlB F W g S (st - fs) fs false ++ [125]) := by
    show 123 :: (tlF (tlG vlB F W D) vlB F W g S F.length 0 false ++ [125]) = _
    have e1 : tlF (tlG vlB F W D) vlB F W g S F.length 0 false = tlF (tlG vlB F W D) vlB F W g S (F.length - fs) fs false := by
      have := tlF_skip (F := F) (W := W) (S := S) (g := g) (tG := tlG vlB F W D) (d := F.length - fs) (sm := false) fs 0 (fun h _ b => q4 h (by omega))
      rw [Nat.zero_add, show fs + (F.length - fs) = F.length by omega] at this
      exact this
    have e2 : ∀ k f sm, f + k = st → tlF (tlG vlB F W D) vlB F W g S (k + (F.length - st)) f sm = tlF (tlG vlB F W D) vlB F W g S k f sm := by
      intro k
      induction k with
      | zero =>
        intro f sm hk
        have := tlF_skip (F := F) (W := W) (S := S) (g := g) (tG := tlG vlB F W D) (d := 0) (sm := sm) (F.length - st) f (fun h a b z => by have := q3 h (by omega) z; omega)
        rw [Nat.zero_add]
        exact this
      | succ k ih =>
        intro f sm hk
        rw [show k + 1 + (F.length - st) = k + (F.length - st) + 1 by omega]
        simp only [tlF]
        rw [ih (f + 1) sm (by omega), ih (f + 1) true (by omega)]
    rw [e1, show F.length - fs = st - fs + (F.length - st) by omega, e2 _ _ _ (by omega)]
    rfl
  rw [tx]
  have L := groupL (stop := st) hw hN hO hA hgr hdp (by omega) q2 q3 J G (st - fs) fs false
  refine (AppA.seq (R := RgC F W e (rgF F g) S g) (k_put (κ := κ) (B := B) (b := 123) (w := 123) (Pre := fun x => TcC x F W V b e S ∧ CuC x F W e S g) sn147 hκ (by decide) rfl).as (fun κ1 h1 => (L κ1 _ (by omega) h1).cg (P2 := fun x => TcC x F W V b e S ∧ CuC x F W e S g) (W2 := fun post kb nb x => wp_Sch_firstIn (fun (r47 : Int32) (x46 : St) => ∃ n : Nat, wl_Asm_writeGroup_41 post (wr_Asm_writeAll d).1 (wr_Asm_writeAll d).2.1 (wr_Asm_writeAll d).2.2 n 146 g (nI dp) 70 (nI st) 0 r47 kb nb x46) 70 g x) (fun x _ hp => ⟨hp.1, fun c hc wc hi _ => hp.2 c hc wc hi, fun c hc wc ⟨h, h1, h2, _⟩ => absurd h2 (q4 h h1)⟩) (fun _ _ _ _ h => h) (fun post kb nb x _ hp z => q6 x _ ⟨_, z⟩)) (fun x y hK hp fy => ⟨hp.1.fr hK (FK.as fy), hp.2.k hK fy⟩) (fun x y z hK _ fy _ hz => ⟨(FK.as fy).trans hz.1, hz.2.1, (ElC.k hK fy).trans hz.2.2⟩)).cg (fun _ _ h => h) (fun _ _ _ _ h => h) (fun post kb nb x _ hp z => ?_)
  show wb_Asm_writeGroup post (wr_Asm_writeAll d).1 (wr_Asm_writeAll d).2.1 (wr_Asm_writeAll d).2.2 146 g (nI dp) kb nb x
  unfold wb_Asm_writeGroup
  exact br_t (by (first | omega | (simp (disch := omega) only [Int32.le_iff_toInt_le, Int32.lt_iff_toInt_lt, z_eq, z_in, nI_toInt, z_cl, z_m1, z_sg, z_255, Int32.reduceToInt] <;> omega) | (simp only [Int32.le_iff_toInt_le, Int32.lt_iff_toInt_lt, z_eq, z_in, z_add, z_sub, z_mul, z_neg, z_nI, z_cl, z_sg, z_255, z_lit, Int32.reduceToInt] <;> omega))) (q5 x _ hp.1 z)
theorem writeGroup_ok (hw : WfS F) (hN : NmS F) : ∀ D d, 3 * D ≤ d → okWG F W V b e D d := by
  intro D
  induction D with
  | zero =>
    intro d _ κ S g dp B hκ hgr hdp hD J G
    exfalso
    have : upS wOne (fPa F) g ≤ 16 := by
      rcases hgr with z | ⟨f, f1, f2, f3⟩
      · rw [z, show upS wOne (fPa F) (-1) = 0 from rfl]; exact Nat.zero_le _
      · rw [f2]; exact hw.2.2.2.2.2.1 f f1 f3
    omega
  | succ D ih =>
    intro d hd
    obtain ⟨d', rfl⟩ : ∃ d', d = d' + 1 + 1 + 1 := ⟨d - 3, by omega⟩
    exact writeGroup_of hw hN (writeOne_of hw (ih (d' + 1) (by omega))) (writeAll_of hw (writeOne_of hw (ih d' (by omega))))
end
