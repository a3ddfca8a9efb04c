/-! ===== flux ===== -/
section Flux
variable {M M0 : am_M} {S : Sc}
/-- beyond the line in a tick -/
def abv (S : Sc) (q T c : Int) : Prop := 8 * q ≤ pz S T c 0
noncomputable def abB (S : Sc) (q T c : Int) : Int := @ite _ (abv S q T c) (Classical.propDecidable _) 1 0
/-- goes over it, the way asked for -/
noncomputable def crx (S : Sc) (q w c T : Int) : Int := if abB S q T c ≠ abB S q (T - 1) c ∧ abB S q T c = w then 1 else 0
theorem abB_bd (q T c : Int) : 0 ≤ abB S q T c ∧ abB S q T c ≤ 1 := by
  unfold abB
  by_cases z : abv S q T c
  · rw [if_pos z]; omega
  · rw [if_neg z]; omega
theorem abB_t {q T c : Int} (h : 8 * q ≤ pz S T c 0) : abB S q T c = 1 := if_pos h
theorem abB_f {q T c : Int} (h : pz S T c 0 < 8 * q) : abB S q T c = 0 := if_neg (fun z : abv S q T c => by unfold abv at z; omega)
theorem cCrL (h : SH M) (hc : CS M S) (hk : scOK S) {b : Nat} {q w c : Int} (hsp : isSp S c) (hA : SpA M b) (hL : CpL M S b (lay S c) c (gen c)) (q1 : 0 ≤ q) (q2 : q ≤ 100) (w1 : 0 ≤ w) (w2 : w ≤ 1) {u : Int} (u1 : u ≤ kEn (lay S c)) : ∀ (r n : Nat) (T v : Int), kBn (lay S c) < T → T + r = u → r < n → F_Sprk_crossings_L63 n b (iz (q * 8)) (iz w) (iz u) (iz v) (iz (abB S q (T - 1) c)) (iz T) M = some (some (.int (iz (smF (crx S q w c) r T v))), M)
  | r, 0, T, v, z1, z2, z3 => by omega
  | 0, n + 1, T, v, z1, z2, z3 => by
    have lg := (lay_g hk hsp).1.2
    have bn := lay_bn hk hsp
    rw [F_Sprk_crossings_L63, ifE (by omega) (by omega) (by omega) (by omega), if_pos (by omega), smF]
  | r + 1, n + 1, T, v, z1, z2, z3 => by
    have lg := (lay_g hk hsp).1.2
    have bn := lay_bn hk hsp
    have fr : inFr S T c := ⟨hsp, by omega, by omega⟩
    have p0 := pz_b3 hk fr (i := 0) (by omega) (by omega)
    have b1 := abB_bd (S := S) q (T - 1) c
    have b2 := abB_bd (S := S) q T c
    have ih := fun v => cCrL h hc hk hsp hA hL q1 q2 w1 w2 u1 r n (T + 1) v (by omega) (by omega) (by omega)
    rw [show T + 1 - 1 = T by omega] at ih
    have l91 : F_Sprk_crossings_L91 (F_Sprk_crossings_L63 n) b (iz (q * 8)) (iz w) (iz u) (iz v) (iz (abB S q (T - 1) c)) (iz T) (iz (abB S q T c)) M = some (some (.int (iz (smF (crx S q w c) r (T + 1) (v + crx S q w c T)))), M) := by
      unfold F_Sprk_crossings_L91
      rw [ifQ (by omega) (by omega) (by omega) (by omega), ifQ (by omega) (by omega) (by omega) (by omega), show (1 : Int32) = iz 1 from rfl, iz_add, iz_add, nm_eq, nm_eq, nm_eq]
      unfold crx at ih ⊢
      by_cases g1 : abB S q T c = abB S q (T - 1) c
      · rw [if_pos g1, if_neg (fun z => z.1 g1), Int.add_zero]; exact ih v
      · rw [if_neg g1]
        by_cases g2 : abB S q T c = w
        · rw [if_pos g2, if_pos ⟨g1, g2⟩]; exact ih (v + 1)
        · rw [if_neg g2, if_neg (fun z => g2 z.2), Int.add_zero]; exact ih v
    rw [F_Sprk_crossings_L63, ifE (by omega) (by omega) (by omega) (by omega), if_neg (by omega), fI_eq hA.1, hL.2.2.2.1, cv_eq hA.1, iz_sub, show (0 : Int32) = iz 0 from rfl, cPl h hc hk fr hA hL (by omega) (by omega), bI_eq, ifL (by omega) (by omega) (by omega) (by omega), smF]
    by_cases g : pz S T c 0 < q * 8
    · rw [if_pos g]
      rw [abB_f (show pz S T c 0 < 8 * q by omega)] at l91
      exact l91
    · rw [if_neg g]
      rw [abB_t (show 8 * q ≤ pz S T c 0 by omega)] at l91
      exact l91
/-- what a spark adds in a tick -/
noncomputable def flg (S : Sc) (q w T c : Int) : Int := @ite _ (inFr S T c ∧ kBn (lay S c) < T) (Classical.propDecidable _) (crx S q w c T) 0
theorem smF_z {f g : Int → Int} : ∀ (r : Nat) (k v : Int), (∀ j, k ≤ j → j < k + r → f j = g j) → smF f r k v = smF g r k v
  | 0, k, v, h => rfl
  | r + 1, k, v, h => by rw [smF, smF, h k (by omega) (by omega), smF_z r (k + 1) _ (fun j j1 j2 => h j (by omega) (by omega))]
theorem cCrs (h : SH M) (hc : CS M S) (hk : scOK S) {b : Nat} {q w c a e : Int} (hsp : isSp S c) (hA : SpA M b) (hL : CpL M S b (lay S c) c (gen c)) (q1 : 0 ≤ q) (q2 : q ≤ 100) (w1 : 0 ≤ w) (w2 : w ≤ 1) (a0 : 0 ≤ a) (a1 : a ≤ e) (e1 : e < 50000) : F_Sprk_crossings b (iz a) (iz e) (iz (q * 8)) (iz w) M = some (some (.int (iz (smF (fun T => flg S q w T c) (e - a).toNat a 0))), M) := by
  have fg := fu_ge
  have lg := (lay_g hk hsp).1.2
  have bn := lay_bn hk hsp
  have zero : ∀ T, ¬ (kBn (lay S c) < T ∧ T < kEn (lay S c)) → flg S q w T c = 0 := fun T z => if_neg (fun y => z ⟨y.2, y.1.2.2⟩)
  have val : ∀ T, kBn (lay S c) < T → T < kEn (lay S c) → flg S q w T c = crx S q w c T := fun T y1 y2 => if_pos ⟨⟨hsp, by omega, y2⟩, y1⟩
  unfold F_Sprk_crossings
  rw [fI_eq hA.1, hL.2.2.2.2, min_eq (by omega) (by omega) (by omega) (by omega), bI_eq, fI_eq hA.1, hL.2.2.2.1, show (1 : Int32) = iz 1 from rfl, iz_add, max_eq (by omega) (by omega) (by omega) (by omega), bI_eq, ifL (by omega) (by omega) (by omega) (by omega)]
  by_cases g : max a (kBn (lay S c) + 1) < min e (kEn (lay S c))
  rotate_left
  · rw [if_neg g, smF_z (g := fun _ => 0) _ _ _ (fun j j1 j2 => zero j (by omega)), smF_0 (fun _ => rfl)]; rfl
  obtain ⟨f, hf⟩ : ∃ f, f = max a (kBn (lay S c) + 1) := ⟨_, rfl⟩
  obtain ⟨u, hu⟩ : ∃ u, u = min e (kEn (lay S c)) := ⟨_, rfl⟩
  rw [← hf, ← hu] at g ⊢
  have fr : inFr S (f - 1) c := ⟨hsp, by omega, by omega⟩
  have p0 := pz_b3 hk fr (i := 0) (by omega) (by omega)
  have main := cCrL h hc hk hsp hA hL q1 q2 w1 w2 (u := u) (by omega) (u - f).toNat fu f 0 (by omega) (by omega) (by omega)
  have sum : smF (fun T => flg S q w T c) (e - a).toNat a 0 = smF (crx S q w c) (u - f).toNat f 0 := by
    rw [show (e - a).toNat = (f - a).toNat + ((u - f).toNat + (e - u).toNat) by omega, smF_app, smF_app, smF_z (g := fun _ => 0) (f - a).toNat a 0 (fun j j1 j2 => zero j (by omega)), smF_0 (fun _ => rfl), show a + ((f - a).toNat : Int) = f by omega, smF_z (g := crx S q w c) (u - f).toNat f 0 (fun j j1 j2 => val j (by omega) (by omega)), smF_z (g := fun _ => 0) (e - u).toNat _ _ (fun j j1 j2 => zero j (by omega)), smF_0 (fun _ => rfl)]
  rw [sum, if_pos g, fI_eq hA.1, hL.2.2.2.1, cv_eq hA.1, iz_sub, iz_sub, show (0 : Int32) = iz 0 from rfl, cPl h hc hk fr hA hL (by omega) (by omega), bI_eq, ifL (by omega) (by omega) (by omega) (by omega)]
  by_cases g2 : pz S (f - 1) c 0 < q * 8
  · rw [if_pos g2]
    rw [abB_f (show pz S (f - 1) c 0 < 8 * q by omega)] at main
    exact main
  · rw [if_neg g2]
    rw [abB_t (show 8 * q ≤ pz S (f - 1) c 0 by omega)] at main
    exact main
theorem lpFlux (hk : scOK S) (M0 : am_M) {a e q w : Int} (q1 : 0 ≤ q) (q2 : q ≤ 100) (w1 : 0 ≤ w) (w2 : w ≤ 1) (a0 : 0 ≤ a) (a1 : a ≤ e) (e1 : e ≤ 40000) : LoopH (X := Int32) S a e (wkl S a e) (fun n v i M => F_NS_flux_L63 n 0 (iz a) (iz e) (iz q) (iz w) v i M) (fun m n v i j M => F_NS_flux_L84 (F_NS_flux_L63 n) m 0 (iz a) (iz e) (iz q) (iz w) v i j M) (fun v M => some (some (.int v), M)) (fun L v M => Fr ASc M0 M ∧ v = iz (lsm (fun c => smF (fun T => flg S q w T c) (e - a).toNat a 0) L)) := by
  refine ⟨fun n v i M h i0 i1 => ?_, fun m n v i j len M h hl l0 l7 hj => ?_, fun m n v i j row L c len M hP h hc hin hr hL hl jl l7 hs _ => ?_, fun L v M M' hP hf => ⟨hP.1.trans (hf.mono AWk_ASc), hP.2⟩⟩
  · show F_NS_flux_L63 (n + 1) 0 (iz a) (iz e) (iz q) (iz w) v (iz i) M = _
    rw [F_NS_flux_L63, show (1000000 : Int32) = iz 1000000 from rfl, ifE (by omega) (by omega) (by omega) (by omega), if_neg (by omega), fR_eq (kd_0 h) (rr_0_6 h), cv_eq (kd_18 h)]
    rfl
  · show F_NS_flux_L84 (F_NS_flux_L63 n) (m + 1) 0 (iz a) (iz e) (iz q) (iz w) v (iz i) (iz j) M = _
    rw [F_NS_flux_L84, fR_eq (kd_0 h) (rr_0_6 h), fI_eq (kd_18 h), hl, ifE (by omega) (by omega) (by omega) (by omega), if_pos (by omega), nm_eq, show (1 : Int32) = iz 1 from rfl, iz_add]
  · refine ⟨v + iz (smF (fun T => flg S q w T c) (e - a).toNat a 0), M, ?_, ⟨hP.1, ?_⟩, KW.refl h⟩
    · show F_NS_flux_L84 (F_NS_flux_L63 n) (m + 1) 0 (iz a) (iz e) (iz q) (iz w) v (iz i) (iz (j : Int)) M = _
      have cr := cCrs h hc hk hin.1 (spA_l h hr) hL q1 q2 w1 w2 a0 a1 (show e < 50000 by omega)
      rw [F_NS_flux_L84, fR_eq (kd_0 h) (rr_0_6 h), fI_eq (kd_18 h), hl, ifE (by omega) (by omega) (by omega) (by omega), if_neg (by omega), fR_eq (kd_0 h) (rr_0_6 h), cv_eq (kd_18 h), hs, bR_eq, show (1 : Int32) = iz 1 from rfl, show (0 : Int32) = iz 0 from rfl, show (8 : Int32) = iz 8 from rfl, iz_mul, iz_add, ifQ (by omega) (by omega) (by omega) (by omega), cv_eq (spA_l h hr).1, cv_eq (spA_l h hr).1]
      by_cases g : w = 1
      · rw [g] at cr ⊢
        rw [if_pos rfl, cr, bI_eq, nm_eq, nm_eq, show ((j : Int) + 1) = ((j + 1 : Nat) : Int) by omega]
      · have w0 : w = 0 := by omega
        rw [w0] at cr ⊢
        rw [if_neg (by decide), cr, bI_eq, nm_eq, nm_eq, show ((j : Int) + 1) = ((j + 1 : Nat) : Int) by omega]
    · rw [lsm_1, hP.2, iz_add]
theorem lsm_sm (g : Int → Int → Int) : ∀ (r : Nat) (a : Int) (L : List Int), lsm (fun c => smF (fun T => g T c) r a 0) L = smF (fun T => lsm (g T) L) r a 0
  | 0, a, L => by
    show lsm (fun _ => 0) L = 0
    induction L with
    | nil => rfl
    | cons c L ih => rw [lsm, ih]; rfl
  | r + 1, a, L => by
    have e1 : ∀ c, smF (fun T => g T c) (r + 1) a 0 = g a c + smF (fun T => g T c) r (a + 1) 0 := fun c => by
      rw [smF, smF_v]; omega
    rw [lsm_add (f := fun c => smF (fun T => g T c) (r + 1) a 0) (g := g a) (d := fun c => smF (fun T => g T c) r (a + 1) 0) L (fun c _ => e1 c), lsm_sm g r (a + 1) L, smF, smF_v]; omega
theorem lsm_flt {f : Int → Int} {p : Int → Prop} : ∀ (L : List Int), (∀ c ∈ L, ¬ p c → f c = 0) → lsm f L = lsm f (flt p L)
  | [], h => rfl
  | c :: L, h => by
    have ih := lsm_flt (f := f) (p := p) L (fun d hd => h d (List.mem_cons_of_mem _ hd))
    unfold flt at ih ⊢
    by_cases q : p c
    · rw [List.filter_cons_of_pos (by rw [@decide_eq_true_iff _ (Classical.propDecidable _)]; exact q), lsm, lsm, ih]
    · rw [List.filter_cons_of_neg (by rw [@decide_eq_true_iff _ (Classical.propDecidable _)]; exact q), lsm, ih, h c (List.mem_cons_self ..) q]; omega
/-- in one tick -/
noncomputable def flT (S : Sc) (q w T : Int) : Int := lsm (flg S q w T) (wkl S T (T + 1))
theorem fl_sw (hk : scOK S) {a e q w : Int} : lsm (fun c => smF (fun T => flg S q w T c) (e - a).toNat a 0) (wkl S a e) = smF (flT S q w) (e - a).toNat a 0 := by
  rw [lsm_sm]
  refine smF_z _ _ _ (fun T T1 T2 => ?_)
  obtain ⟨w1, w2⟩ := wkl_g hk a e
  have wf := wkl_FL hk T
  unfold flT
  rw [lsm_flt (f := flg S q w T) (p := inFr S T) (wkl S a e) (fun c hc z => if_neg (fun y => z y.1))]
  refine lsm_perm _ ((List.perm_ext_iff_of_nodup (List.Pairwise.filter _ (pw_nd w2)) (pw_nd wf.1)).mpr (fun c => ?_))
  show c ∈ flt (inFr S T) (wkl S a e) ↔ _
  rw [flt_mem, w1, wf.2]
  refine ⟨fun z => z.2, fun z => ⟨⟨z.1, ?_, ?_⟩, z⟩⟩
  · have := z.2.1; omega
  · have := z.2.2; omega
theorem mFl99 (hk : scOK S) {e q w T : Int} {L : List Int} {M1 : am_M} (hG : MG M0 M1 S T L) (T1 : 0 ≤ T) (T2 : T ≤ 30000) (q1 : 1 ≤ q) (q2 : q ≤ 100) (w1 : 0 ≤ w) (w2 : w ≤ 1) (k84 : Nat → Int32 → Int32 → Int32 → Int32 → Int32 → am_M → am_R) (v : Int) : ∃ M', F_Md_flux_L99 k84 fu 70 (iz e) (iz q) (iz w) (iz v) (iz T) (iz 0) M1 = k84 70 (iz e) (iz q) (iz w) (iz (v + lsm (flg S q w T) L)) (iz (T + 1)) M' ∧ MG M0 M' S T L := by
  have lm := md_len hk hG.2.2.2.1
  obtain ⟨M', e3, -, g3⟩ := mFold (M0 := M0) (S := S) (t := T) (L := L) (fun n (x : Int) i M => F_Md_flux_L99 k84 n 70 (iz e) (iz q) (iz w) (iz x) (iz T) i M) (fun x M => k84 70 (iz e) (iz q) (iz w) (iz x) (iz (T + 1)) M) (fun _ => True) (fun x c => x + flg S q w T c) (fun n x M _ hG => by
    show F_Md_flux_L99 k84 (n + 1) 70 (iz e) (iz q) (iz w) (iz x) (iz T) (iz (L.length : Int)) M = _
    rw [F_Md_flux_L99, md_l hG.1 hG.2.2.2.1, ifE (by omega) (by omega) (by omega) (by omega), if_pos (Int.le_refl _), nm_eq, show (1 : Int32) = iz 1 from rfl, iz_add]) (fun n x i c M _ hG hi => by
    have fi := (md_in hG.2.2.2.1 hi).1
    have il := (md_in hG.2.2.2.1 hi).2
    have f1 := fi.2.1
    have f2 := fi.2.2
    have lg := (lay_g hk fi.1).1.2
    obtain ⟨M2, z1, z2, z3, z4⟩ := mLay1 hk hG hi
    have h2 := z2.1
    refine ⟨M2, ?_, trivial, z2⟩
    show F_Md_flux_L99 k84 (n + 1) 70 (iz e) (iz q) (iz w) (iz x) (iz T) (iz (i : Int)) M = F_Md_flux_L99 k84 n 70 (iz e) (iz q) (iz w) (iz (x + flg S q w T c)) (iz T) (iz ((i + 1 : Nat) : Int)) M2
    rw [F_Md_flux_L99, md_l hG.1 hG.2.2.2.1, ifE (by omega) (by omega) (by omega) (by omega), if_neg (by omega), cv_eq (kd_70 hG.1), mCode hG.1 hk hG.2.2.2.1 hi, bI_eq, cv_eq (kd_70 hG.1), z1, bV_eq, fI_eq (kd_70 h2), z4.2.1, ifQ (by omega) (by omega) (by omega) (by omega), nm_eq, show (1 : Int32) = iz 1 from rfl, iz_add, show ((i : Int) + 1) = ((i + 1 : Nat) : Int) by omega]
    by_cases g0 : T = kBn (lay S c)
    · rw [if_pos g0, show flg S q w T c = 0 from if_neg (fun y => by omega), Int.add_zero]
    have fr1 : inFr S (T - 1) c := ⟨fi.1, by omega, by omega⟩
    have pa := pz_b3 hk fr1 (i := 0) (by omega) (by omega)
    have pb := pz_b3 hk fi (i := 0) (by omega) (by omega)
    have fv : flg S q w T c = crx S q w c T := if_pos ⟨fi, by omega⟩
    have l156 : ∀ s0 : Int, (s0 = 1 - abB S q (T - 1) c) → F_Md_flux_L156 k84 (F_Md_flux_L99 k84 n) 70 (iz e) (iz q) (iz w) (iz x) (iz T) (iz (i : Int)) (iz s0) M2 = F_Md_flux_L99 k84 n 70 (iz e) (iz q) (iz w) (iz (x + crx S q w c T)) (iz T) (iz ((i + 1 : Nat) : Int)) M2 := fun s0 hs0 => by
      have bA := abB_bd (S := S) q (T - 1) c
      have bB := abB_bd (S := S) q T c
      have l182 : ∀ s1 : Int, (s1 = 1 - abB S q T c) → F_Md_flux_L182 k84 (F_Md_flux_L99 k84 n) 70 (iz e) (iz q) (iz w) (iz x) (iz T) (iz (i : Int)) (iz s0) (iz s1) M2 = F_Md_flux_L99 k84 n 70 (iz e) (iz q) (iz w) (iz (x + crx S q w c T)) (iz T) (iz ((i + 1 : Nat) : Int)) M2 := fun s1 hs1 => by
        unfold F_Md_flux_L182 F_Md_flux_L206 crx
        rw [ifQ (by omega) (by omega) (by omega) (by omega), show (0 : Int32) = iz 0 from rfl, show (1 : Int32) = iz 1 from rfl, ifQ (by omega) (by omega) (by omega) (by omega), ifQ (by omega) (by omega) (by omega) (by omega), ifQ (by omega) (by omega) (by omega) (by omega), iz_add, iz_add, iz_add, nm_eq, nm_eq, nm_eq, Int.add_zero, show ((i : Int) + 1) = ((i + 1 : Nat) : Int) by omega]
        by_cases y1 : s0 = s1
        · rw [if_pos y1, if_neg (fun y => y.1 (by omega)), Int.add_zero]
        · rw [if_neg y1]
          by_cases y2 : w = 1
          · rw [if_pos y2]
            by_cases y3 : s0 = 1
            · rw [if_pos y3, if_pos ⟨by omega, by omega⟩]; rfl
            · rw [if_neg y3, if_neg (fun y => by omega), Int.add_zero]
          · rw [if_neg y2]
            by_cases y3 : s0 = 0
            · rw [if_pos y3, if_pos ⟨by omega, by omega⟩]; rfl
            · rw [if_neg y3, if_neg (fun y => by omega), Int.add_zero]
      unfold F_Md_flux_L156
      rw [fI_eq (kd_70 h2), z4.2.1, cv_eq (kd_70 h2), iz_sub, show (0 : Int32) = iz 0 from rfl, mdPl h2 z2.2.1 hk fi.1 z4 f1 f2 (by omega) (by omega), bI_eq, show (8 : Int32) = iz 8 from rfl, iz_ediv (by omega) (by omega) (by omega) (by omega), ifE (by omega) (by omega) (by omega) (by omega)]
      by_cases y : q ≤ pz S T c 0 / 8
      · rw [if_pos y]; exact l182 0 (by rw [abB_t (by omega)]; rfl)
      · rw [if_neg y]; exact l182 1 (by rw [abB_f (by omega)]; rfl)
    rw [if_neg g0, fv, fI_eq (kd_70 h2), z4.2.1, cv_eq (kd_70 h2), iz_sub, iz_sub, show T - 1 - kBn (lay S c) = (T - 1) - kBn (lay S c) from rfl, show (0 : Int32) = iz 0 from rfl, mdPl h2 z2.2.1 hk fi.1 z4 fr1.2.1 fr1.2.2 (by omega) (by omega), bI_eq, show (8 : Int32) = iz 8 from rfl, iz_ediv (by omega) (by omega) (by omega) (by omega), ifE (by omega) (by omega) (by omega) (by omega)]
    by_cases y : q ≤ pz S (T - 1) c 0 / 8
    · rw [if_pos y]; exact l156 0 (by rw [abB_t (by omega)]; rfl)
    · rw [if_neg y]; exact l156 1 (by rw [abB_f (by omega)]; rfl)) (by omega) v trivial hG
  rw [foldl_lsm] at e3
  exact ⟨M', e3, g3⟩
theorem mFlL (hk : scOK S) {e q w : Int} (e1 : e ≤ 30001) (q1 : 1 ≤ q) (q2 : q ≤ 100) (w1 : 0 ≤ w) (w2 : w ≤ 1) : ∀ (r n : Nat) (T v : Int) (M : am_M), SH M → Sc1 M S → FrA M → 0 ≤ T → T + r = e → r < n → ∃ M', F_Md_flux_L84 n 70 (iz e) (iz q) (iz w) (iz v) (iz T) M = some (some (.int (iz (smF (flT S q w) r T v))), M') ∧ Fr ASc M M'
  | r, 0, T, v, M, h, hS, ha, z1, z2, z3 => by omega
  | 0, n + 1, T, v, M, h, hS, ha, z1, z2, z3 => by
    refine ⟨M, ?_, Fr.refl M⟩
    rw [F_Md_flux_L84, ifE (by omega) (by omega) (by omega) (by omega), if_pos (by omega), smF]
  | r + 1, n + 1, T, v, M, h, hS, ha, z1, z2, z3 => by
    obtain ⟨M1, L, y1, g1⟩ := mGth h hS (t := T) (by omega) (by omega)
    obtain ⟨M2, y2, g2⟩ := mFl99 (e := e) (q := q) (w := w) hk g1 (by omega) (by omega) q1 q2 w1 w2 (F_Md_flux_L84 n) v
    have f2 := g2.2.2.2.2
    obtain ⟨M3, y3, f3⟩ := mFlL hk e1 q1 q2 w1 w2 r n (T + 1) (v + lsm (flg S q w T) L) M2 g2.1 (hS.q ha f2) (ha.q f2) (by omega) (by omega) (by omega)
    refine ⟨M3, ?_, f2.trans f3⟩
    rw [F_Md_flux_L84, ifE (by omega) (by omega) (by omega) (by omega), if_neg (by omega), cv_eq (kd_70 h), y1, bV_eq, show (0 : Int32) = iz 0 from rfl, y2, smF, show flT S q w T = lsm (flg S q w T) L from (lsm_perm _ (gf_perm g1.2.2.2.1 (wkl_FL hk T))).symm]
    exact y3
theorem ap_flux (hI : Inv M) (p1 p2 p3 p4 : Int32) : Ag (F_NS_flux 0 p1 p2 p3 p4) (F_Md_flux 70 p1 p2 p3 p4) M := by
  obtain ⟨h, ha, -⟩ := id hI
  obtain ⟨S, st, s01, s1, s2, hc, hm, hb, hs, h0⟩ := hI.sc
  obtain ⟨a, a1, a2, rfl⟩ := iz_of p1
  obtain ⟨b, b1, b2, rfl⟩ := iz_of p2
  obtain ⟨q, q1, q2, rfl⟩ := iz_of p3
  obtain ⟨w, w1, w2, rfl⟩ := iz_of p4
  rcases s01 with z | z
  · subst z
    refine Ag.p hI (v := -2) ?_ ?_
    · unfold F_NS_flux; rw [cv_eq (kd_0 h), cWin0 h s1, bI_eq, if_pos (by decide)]
    · unfold F_Md_flux; rw [fI_eq (kd_70 h), s2, if_pos (by decide)]
  subst z
  have hS := hs rfl
  have hk := hS.1
  have wc := cWin h s1 a1 a2 b1 b2
  have w0 := hk.1 0 (by omega) (by omega)
  have md : ∀ M, SH M → MS M S → rI M 70 1 = iz 1 → F_Md_flux 70 (iz a) (iz b) (iz q) (iz w) M = if (0 ≤ a ∧ a ≤ 30001) ∧ (0 ≤ b ∧ b ≤ 30001) ∧ (0 ≤ b - a ∧ b - a ≤ 60) ∧ (1 ≤ q ∧ q ≤ sW S 0 - 1) ∧ (0 ≤ w ∧ w ≤ 1) then F_Md_flux_L84 fu 70 (iz b) (iz q) (iz w) (iz 0) (iz a) M else some (some (.int (-2)), M) := fun M h hm s2 => by
    unfold F_Md_flux
    rw [fI_eq (kd_70 h), s2, if_neg (by decide), show (0 : Int64) = jz 0 from rfl, show (30001 : Int64) = jz 30001 from rfl, show (60 : Int64) = jz 60 from rfl, show (1 : Int64) = jz 1 from rfl, mInL a 0 30001 a1 a2 (by omega) (by omega) (by omega) (by omega), bI_eq, bz_if0, mInL b 0 30001 b1 b2 (by omega) (by omega) (by omega) (by omega), bI_eq, bz_if0, jz_i2l a1 a2, jz_i2l b1 b2, jz_sub, in_eq (by omega) (by omega) (by omega) (by omega) (by omega) (by omega), bI_eq, bz_if0, fR_eq (kd_70 h) (rr_70_2 h), show (0 : Int32) = iz 0 from rfl, mWi h hm (by omega) (by omega), show (1 : Int32) = iz 1 from rfl, iz_sub, jz_i2l (a := sW S 0 - 1) (by omega) (by omega), mInL q 1 (sW S 0 - 1) q1 q2 (by omega) (by omega) (by omega) (by omega), bI_eq, bz_if, mInL w 0 1 w1 w2 (by omega) (by omega) (by omega) (by omega), bI_eq, bz_if]
    by_cases y1 : 0 ≤ a ∧ a ≤ 30001
    · by_cases y2 : 0 ≤ b ∧ b ≤ 30001
      · by_cases y3 : 0 ≤ b - a ∧ b - a ≤ 60
        · by_cases y4 : 1 ≤ q ∧ q ≤ sW S 0 - 1
          · by_cases y5 : 0 ≤ w ∧ w ≤ 1
            · rw [if_pos y1, if_pos y2, if_pos y3, if_pos y4, if_pos y5, if_pos ⟨y1, y2, y3, y4, y5⟩]
            · rw [if_pos y1, if_pos y2, if_pos y3, if_pos y4, if_neg y5, if_neg (fun z => y5 z.2.2.2.2)]
          · rw [if_pos y1, if_pos y2, if_pos y3, if_neg y4, if_neg (fun z => y4 z.2.2.2.1)]
        · rw [if_pos y1, if_pos y2, if_neg y3, if_neg (fun z => y3 z.2.2.1)]
      · rw [if_pos y1, if_neg y2, if_neg (fun z => y2 z.2.1)]
    · rw [if_neg y1, if_neg (fun z => y1 z.1)]
  by_cases g2 : 0 ≤ a ∧ a ≤ b ∧ b ≤ 30001
  rotate_left
  · rw [bz_f g2] at wc
    refine Ag.p hI (v := -2) ?_ ?_
    · unfold F_NS_flux; rw [cv_eq (kd_0 h), wc, bI_eq, if_pos (by decide)]
    · rw [md M h hm s2, if_neg (by omega)]
  rw [bz_t g2] at wc
  have cs : F_NS_flux 0 (iz a) (iz b) (iz q) (iz w) M = if 60 < b - a then some (some (.int (-2)), M) else if q < 1 then some (some (.int (-2)), M) else if sW S 0 ≤ q then some (some (.int (-2)), M) else if w < 0 then some (some (.int (-2)), M) else if w ≤ 1 then bV (F_Walk_start 18 (iz a) (iz b) M) (fun M7 => F_NS_flux_L63 fu 0 (iz a) (iz b) (iz q) (iz w) (iz 0) (iz 0) M7) else some (some (.int (-2)), M) := by
    unfold F_NS_flux
    rw [cv_eq (kd_0 h), wc, bI_eq, if_neg (by decide), iz_sub, show (60 : Int32) = iz 60 from rfl, ifL (by omega) (by omega) (by omega) (by omega), show (1 : Int32) = iz 1 from rfl, ifL q1 q2 (by omega) (by omega), fR_eq (kd_0 h) (rr_0_2 h), cv_eq (kd_2 h), show (0 : Int32) = iz 0 from rfl, cW h hc (by omega) (by omega), bI_eq, ifE (by omega) (by omega) q1 q2, ifL w1 w2 (by omega) (by omega), ifE w1 w2 (by omega) (by omega), fR_eq (kd_0 h) (rr_0_6 h), cv_eq (kd_18 h)]
  by_cases g3 : b - a ≤ 60 ∧ (1 ≤ q ∧ q ≤ sW S 0 - 1) ∧ (0 ≤ w ∧ w ≤ 1)
  rotate_left
  · refine Ag.p hI (v := -2) ?_ ?_
    · rw [cs]
      by_cases y : 60 < b - a
      · rw [if_pos y]
      rw [if_neg y]
      by_cases y : q < 1
      · rw [if_pos y]
      rw [if_neg y]
      by_cases y : sW S 0 ≤ q
      · rw [if_pos y]
      rw [if_neg y]
      by_cases y : w < 0
      · rw [if_pos y]
      rw [if_neg y, if_neg (by omega)]
    · rw [md M h hm s2, if_neg (by omega)]
  rw [if_neg (by omega), if_neg (by omega), if_neg (by omega), if_neg (by omega), if_pos (by omega)] at cs
  obtain ⟨M1, e1, f1, w1'⟩ := cStart h hc hk (a := a) (b := b) (by omega) (by omega) (by omega) (by omega)
  obtain ⟨v, M2, e2, f2, p2⟩ := wAll hk (by omega) (by omega) (by omega) (by omega) (lpFlux hk M (a := a) (e := b) (q := q) (w := w) (by omega) (by omega) (by omega) (by omega) (by omega) (by omega) (by omega)) w1' (x := iz 0) ⟨f1.mono AWk_ASc, rfl⟩
  have i2 := hI.q f2
  have h2 := i2.1
  have fg := fu_ge
  have S2 := hS.q ha f2
  obtain ⟨M3, e3, f3⟩ := mFlL (e := b) (q := q) (w := w) hk (by omega) (by omega) (by omega) (by omega) (by omega) (b - a).toNat fu a 0 M2 h2 S2 i2.2.1 (by omega) (by omega) (by omega)
  rw [fl_sw hk] at p2
  refine Ag.q hI (v := iz (smF (flT S q w) (b - a).toNat a 0)) (M1 := M2) (M2 := M3) ?_ f2 ?_ f3
  · rw [cs, e1, bV_eq, ← p2]
    exact e2
  · rw [md M2 h2 (hm.q f2) (by rw [ASc.ri f2 (fun z => by unfold ASc at z; omega)]; exact s2), if_pos (by omega)]
    exact e3
end Flux
