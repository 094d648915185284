/-! the model: ruled -/
section GOS
variable {G : mG} {d N M f : Nat} {es : List Ev} {h : mH} {post : Option Value → mH → Prop} {v : Nat → Int32} {a : Nat → Nat → Int32}
theorem rk_succ (es : List Ev) (may : Nat → Bool) (n x : Nat) (mu : Nat → Nat) (bs : List Bool) : rk es may (n + 1) x mu bs = (if evK es x = 0 then rk es may n (x + 1) (bornF mu (evP es x)) bs else if evK es x = 2 then (if mu (evP es x) = evP es x + 1 then rk es may n (x + 1) (diesF mu (evP es x)) bs else false) else (if mu (evP es x) = evP es x + 1 then false else match bs with
      | [] => false
      | true :: bs => if may x = true ∧ ¬ mxd mu (evP es x) then rk es may n (x + 1) mu bs else false
      | false :: bs => rk es may n (x + 1) (swF mu (evP es x)) bs)) := rfl
set_option maxRecDepth 10000 in
theorem m_ruled {s : Nat} {may : Nat → Bool} (hd : 2 ≤ d) (hw : whl es) (hs : slotR a f es) (hf : f < 8) (hM : ModelC h G M v a) (hmay : mayR a es may) (hss : s < 2 ^ 12)
    (hp : ∀ h' a', ModelC h' G M v a' → (∀ k, k ≠ 16 → a' k = a k) → mKeep h h' M (M + 17) → post (some (.int (if rk es may es.length 0 (fun _ => 0) (bitsL (crs es) s) = true then nI (cT (bitsL (crs es) s)) else -4))) h') : MC G MX7_ruled d 0 0 [.ref M, .int (nI f), .int (nI s), .int (nI (crs es))] h N post := by
  have b30 := (vld_bd hw.1).1
  have b12 := (vld_bd hw.1).2.2
  have hd1 : 1 ≤ d := by omega
  have hcf : (nI f).toNatClampNeg = f := nI_clamp (by omega)
  have vf : vp_in (nI f) 8 := vp_in_nI hf (by decide)
  have h0 := hM.1
  have hlB : (bitsL (crs es) s).length = crs es := by unfold bitsL; simp
  refine MC.of (L0 := [some (.ref M), some (.int (nI f)), some (.int (nI s)), some (.int (nI (crs es))), none, none, none, none, none, none, none, none]) gd_X7_ruled (Nat.le_of_ble_eq_true rfl) rfl (MW.run gd_X7_ruled [12] 20 ?_)
  simp (disch := omega) only [↓EVi, ↓EVc, ↓ft_X7_ruled, ↓reduceIte, ↓EV_obs, ↓EV_obn, ↓EV_ais, ↓EV_ain, ↓EV_ob h0, mdF, mRun, List.mem_cons, List.not_mem_nil, or_false, mtab_eq, Nat.reduceEqDiff, Nat.zero_add, mset2, b10, b00, not_true_eq_false, not_false_eq_true, true_implies, false_implies, implies_true, and_true, true_and, Nat.le_refl, true_or, or_true, eq_self, List.length_cons, List.length_nil, Nat.reduceAdd, Nat.reduceLT, Nat.reduceLeDiff]
  refine MW.upto es.length (fun x L h' => ∃ a' mu x8 x9 x10 x11, L = [some (.ref M), some (.int (nI f)), some (.int (nI s)), some (.int (nI (crs es))), some (.int (nI (aN es x))), some (.int (nI (crs (es.take x)))), some (.int (nI (cT ((bitsL (crs es) s).take (crs (es.take x)))))), some (.int (nI x)), x8, x9, x10, x11] ∧ ModelC h' G M v a' ∧ (∀ k, k ≠ 16 → a' k = a k) ∧ mKeep h h' M (M + 17) ∧ MI mu (aN es x) ∧ mtR a' mu (aN es x) ∧ rk es may es.length 0 (fun _ => 0) (bitsL (crs es) s) = rk es may (es.length - x) x mu ((bitsL (crs es) s).drop (crs (es.take x)))) ?_ ?_ 0 _ _ (Nat.zero_le _) ⟨a, fun _ => 0, none, none, none, none, rfl, hM, fun _ _ => rfl, mKeep_rfl, fun y hy => by rw [aN_zero] at hy; omega, fun y hy => by rw [aN_zero] at hy; omega, rfl⟩
  · rintro x L h' hx ⟨a', mu, x8, x9, x10, x11, rfl, hM', u, hk, hI, hr, hrk⟩ ih
    have h0 := hM'.1
    have a1' : h' (M + 1) = some (.inl (gC G 0, 8, .inl (a' 1))) := hM'.2 1 (by decide) (by decide)
    have a2' : h' (M + 2) = some (.inl (gC G 0, 240, .inl (a' 2))) := hM'.2 2 (by decide) (by decide)
    have a3' : h' (M + 3) = some (.inl (gC G 0, 240, .inl (a' 3))) := hM'.2 3 (by decide) (by decide)
    have a17' : h' (M + 17) = some (.inl (gC G 2, 30, .inl (a' 17))) := hM'.2 17 (by decide) (by decide)
    have hs' : slotR a' f es := slotR_congr (u 1 (by decide)) (u 2 (by decide)) (u 3 (by decide)) hs
    have hs1 := hs'.1
    obtain ⟨hK, hP⟩ := hs'.2 x hx
    have sm := vld_sm hw.1 hx
    obtain ⟨k2, a10, e0, e1, e2⟩ := ev_ok hw.1 hx
    have f1 : (nI es.length ≤ nI x) = False := eq_false (by simp (disch := omega) only [z_nI, z_lit, z_neg, z_add, z_sub, z_mul, z_lt, z_le, z_eq, z_in, z_cl]; omega)
    have hce : (30 * nI f + nI x).toNatClampNeg = 30 * f + x := by simp (disch := omega) only [z_nI, z_lit, z_neg, z_add, z_sub, z_mul, z_lt, z_le, z_eq, z_in, z_cl]; omega
    have ve : vp_in (30 * nI f + nI x) 240 := by simp (disch := omega) only [z_nI, z_lit, z_neg, z_add, z_sub, z_mul, z_lt, z_le, z_eq, z_in, z_cl]; omega
    have hct := crs_take (es := es) hx
    rw [show es.length - x = (es.length - (x + 1)) + 1 by omega, rk_succ] at hrk
    -- the end of a turn
    have st : ∀ (h2 : mH) (a2 : Nat → Nat → Int32) (mu2 : Nat → Nat) (C W : Nat) (y8 y11 : Option Value), C = crs (es.take (x + 1)) → W = cT ((bitsL (crs es) s).take (crs (es.take (x + 1)))) → ModelC h2 G M v a2 → (∀ k, k ≠ 16 → a2 k = a k) → mKeep h h2 M (M + 17) → MI mu2 (aN es (x + 1)) → mtR a2 mu2 (aN es (x + 1)) → rk es may es.length 0 (fun _ => 0) (bitsL (crs es) s) = rk es may (es.length - (x + 1)) (x + 1) mu2 ((bitsL (crs es) s).drop (crs (es.take (x + 1)))) → MW G MX7_ruled (mz G d 0 0 post) 161 [some (.ref M), some (.int (nI f)), some (.int (nI s)), some (.int (nI (crs es))), some (.int (nI (aN es x))), some (.int (nI C)), some (.int (nI W)), some (.int (nI x)), y8, some (.int (nI (evK es x))), some (.int 1), y11] [] h2 (N, 0, 0) := by
      rintro h2 a2 mu2 C W y8 y11 rfl rfl hM2 u2 hk2 hI2 hr2 hrk2
      refine MW.run1 gd_X7_ruled [12] 16 ?_
      simp (disch := omega) only [↓EVk, ↓w_if_eq, ↓w_an_ite, ↓mEndK, ↓w_retK0, ↓w_fitK, ↓w_dupK, ↓w_dup2K, w_an_back, ↓EVd, ↓ft_X7_ruled, ↓reduceIte, ↓EV_obs, ↓EV_obn, ↓EV_ais, ↓EV_ain, mdF, mRun, List.mem_cons, List.not_mem_nil, or_false, mtab_eq, Nat.reduceEqDiff, Nat.zero_add, hd1, mset2, b10, b00, not_true_eq_false, not_false_eq_true, true_implies, false_implies, implies_true, and_true, true_and, Nat.le_refl, true_or, or_true, eq_self, List.length_cons, List.length_nil, Nat.reduceAdd, Nat.reduceLT, Nat.reduceLeDiff]
      refine m_adds ?_
      have ea := nI_ah hw.1 hx
      simp (disch := omega) only [↓EVi, ↓EVc, ↓ft_X7_ruled, ↓reduceIte, ↓EV_obs, ↓EV_obn, ↓EV_ais, ↓EV_ain, mdF, mRun, List.mem_cons, List.not_mem_nil, or_false, mtab_eq, Nat.reduceEqDiff, Nat.zero_add, hd1, mset2, b10, b00, not_true_eq_false, not_false_eq_true, true_implies, false_implies, implies_true, and_true, true_and, Nat.le_refl, true_or, or_true, eq_self, List.length_cons, List.length_nil, Nat.reduceAdd, Nat.reduceLT, Nat.reduceLeDiff]
      rw [nI_1, show nI (aN es x) + (if nI (evK es x) = 0 then 2 else if nI (evK es x) = 2 then -2 else 0) = nI (aN es (x + 1)) from ea]
      exact ih _ _ ⟨a2, mu2, _, _, _, _, rfl, hM2, u2, hk2, hI2, hr2, hrk2⟩
    have bad : rk es may es.length 0 (fun _ => 0) (bitsL (crs es) s) = false → ∀ (h2 : mH) (a2 : Nat → Nat → Int32) (y5 y6 y8 y9 y11 : Option Value), ModelC h2 G M v a2 → (∀ k, k ≠ 16 → a2 k = a k) → mKeep h h2 M (M + 17) → MW G MX7_ruled (mz G d 0 0 post) 161 [some (.ref M), some (.int (nI f)), some (.int (nI s)), some (.int (nI (crs es))), some (.int (nI (aN es x))), y5, y6, some (.int (nI x)), y8, y9, some (.int 0), y11] [] h2 (N, 0, 0) := by
      intro hb h2 a2 y5 y6 y8 y9 y11 hM2 u2 hk2
      have fin := hp h2 a2 hM2 u2 hk2
      rw [hb] at fin
      simp only [Bool.false_eq_true, ↓reduceIte] at fin
      refine MW.run1 gd_X7_ruled [12] 8 ?_
      simp (disch := omega) only [↓EVk, ↓w_if_eq, ↓w_an_ite, ↓mEndK, ↓w_retK0, ↓w_fitK, ↓w_dupK, ↓w_dup2K, w_an_back, ↓EVd, ↓ft_X7_ruled, ↓reduceIte, ↓EV_obs, ↓EV_obn, ↓EV_ais, ↓EV_ain, mdF, mRun, List.mem_cons, List.not_mem_nil, or_false, mtab_eq, Nat.reduceEqDiff, Nat.zero_add, hd1, mset2, b10, b00, not_true_eq_false, not_false_eq_true, true_implies, false_implies, implies_true, and_true, true_and, Nat.le_refl, true_or, or_true, eq_self, List.length_cons, List.length_nil, Nat.reduceAdd, Nat.reduceLT, Nat.reduceLeDiff]
      exact fin
    clear ih
    rcases (by omega : evK es x = 0 ∨ evK es x = 2 ∨ evK es x = 1) with k | k | k
    · -- a birth
      have fk := e0 k
      replace hct : crs (es.take (x + 1)) = crs (es.take x) := by rw [hct, if_neg (by omega)]; rfl
      rw [if_pos k] at hrk
      have g0 : (nI (evK es x) = 0) = True := eq_true (by rw [k]; rfl)
      refine MW.run1 gd_X7_ruled [12, 161] 40 ?_
      simp (disch := omega) only [↓EVk, ↓w_if_eq, ↓w_an_ite, ↓mEndK, ↓w_retK0, ↓w_fitK, ↓w_dupK, ↓w_dup2K, w_an_back, ↓EVd, ↓ft_X7_ruled, ↓reduceIte, ↓EV_obs, ↓EV_obn, ↓EV_ais, ↓EV_ain, ↓EV_ob h0, ↓EV_ai a1', ↓EV_ai a2', ↓EV_ai a3', mdF, mRun, List.mem_cons, List.not_mem_nil, or_false, mtab_eq, Nat.reduceEqDiff, Nat.zero_add, hcf, vf, hs1, f1, hce, ve, hK, hP, g0, hd1, mset2, b10, b00, not_true_eq_false, not_false_eq_true, true_implies, false_implies, implies_true, and_true, true_and, Nat.le_refl, true_or, or_true, eq_self, List.length_cons, List.length_nil, Nat.reduceAdd, Nat.reduceLT, Nat.reduceLeDiff]
      refine m_born hM' hI hr fk.2.1 (by omega) rfl rfl (fun h2 a2 hM2 hr2 u2 hk2 => ?_)
      simp (disch := omega) only [↓EVk, ↓w_if_eq, ↓w_an_ite, ↓mEndK, ↓w_retK0, ↓w_fitK, ↓w_dupK, ↓w_dup2K, w_an_back, ↓EVd, ↓ft_X7_ruled, ↓reduceIte, ↓EV_obs, ↓EV_obn, ↓EV_ais, ↓EV_ain, mdF, mRun, List.mem_cons, List.not_mem_nil, or_false, mtab_eq, Nat.reduceEqDiff, Nat.zero_add, hd1, mset2, b10, b00, not_true_eq_false, not_false_eq_true, true_implies, false_implies, implies_true, and_true, true_and, Nat.le_refl, true_or, or_true, eq_self, List.length_cons, List.length_nil, Nat.reduceAdd, Nat.reduceLT, Nat.reduceLeDiff]
      refine st h2 a2 (bornF mu (evP es x)) _ _ _ _ hct.symm (by rw [hct]) hM2 (fun k hk => by rw [u2 k hk]; exact u k hk) (mKeep_trans hk hk2) ?_ ?_ ?_
      · rw [fk.2.2]
        exact MI_born hI fk.2.1
      · rw [fk.2.2]
        exact hr2
      · rw [hct]
        exact hrk
    · -- a death
      have fk := e2 k
      replace hct : crs (es.take (x + 1)) = crs (es.take x) := by rw [hct, if_neg (by omega)]; rfl
      rw [if_neg (by omega), if_pos k] at hrk
      have g0 : (nI (evK es x) = 0) = False := eq_false (by rw [k]; decide)
      have g2 : (nI (evK es x) = 2) = True := eq_true (by rw [k]; rfl)
      refine MW.run1 gd_X7_ruled [12, 161] 40 ?_
      simp (disch := omega) only [↓EVk, ↓w_if_eq, ↓w_an_ite, ↓mEndK, ↓w_retK0, ↓w_fitK, ↓w_dupK, ↓w_dup2K, w_an_back, ↓EVd, ↓ft_X7_ruled, ↓reduceIte, ↓EV_obs, ↓EV_obn, ↓EV_ais, ↓EV_ain, ↓EV_ob h0, ↓EV_ai a1', ↓EV_ai a2', ↓EV_ai a3', mdF, mRun, List.mem_cons, List.not_mem_nil, or_false, mtab_eq, Nat.reduceEqDiff, Nat.zero_add, hcf, vf, hs1, f1, hce, ve, hK, hP, g0, g2, hd1, mset2, b10, b00, not_true_eq_false, not_false_eq_true, true_implies, false_implies, implies_true, and_true, true_and, Nat.le_refl, true_or, or_true, eq_self, List.length_cons, List.length_nil, Nat.reduceAdd, Nat.reduceLT, Nat.reduceLeDiff]
      have en : aN es x = aN es (x + 1) + 2 := by omega
      refine m_dies (n := aN es (x + 1)) hM' (by rw [← en]; exact hI) (by rw [← en]; exact hr) (by omega) (by omega) rfl (by rw [en]) (fun z => ?_) (fun z h2 a2 hM2 hr2 u2 hk2 => ?_)
      · rw [if_neg z] at hrk
        simp (disch := omega) only [↓EVk, ↓w_if_eq, ↓w_an_ite, ↓mEndK, ↓w_retK0, ↓w_fitK, ↓w_dupK, ↓w_dup2K, w_an_back, ↓EVd, ↓ft_X7_ruled, ↓reduceIte, ↓EV_obs, ↓EV_obn, ↓EV_ais, ↓EV_ain, ↓EV_ob h0, mdF, mRun, List.mem_cons, List.not_mem_nil, or_false, mtab_eq, Nat.reduceEqDiff, Nat.zero_add, hd1, mset2, b10, b00, not_true_eq_false, not_false_eq_true, true_implies, false_implies, implies_true, and_true, true_and, Nat.le_refl, true_or, or_true, eq_self, List.length_cons, List.length_nil, Nat.reduceAdd, Nat.reduceLT, Nat.reduceLeDiff]
        exact bad hrk h' a' _ _ _ _ _ hM' u hk
      · rw [if_pos z] at hrk
        simp (disch := omega) only [↓EVk, ↓w_if_eq, ↓w_an_ite, ↓mEndK, ↓w_retK0, ↓w_fitK, ↓w_dupK, ↓w_dup2K, w_an_back, ↓EVd, ↓ft_X7_ruled, ↓reduceIte, ↓EV_obs, ↓EV_obn, ↓EV_ais, ↓EV_ain, mdF, mRun, List.mem_cons, List.not_mem_nil, or_false, mtab_eq, Nat.reduceEqDiff, Nat.zero_add, hd1, mset2, b10, b00, not_true_eq_false, not_false_eq_true, true_implies, false_implies, implies_true, and_true, true_and, Nat.le_refl, true_or, or_true, eq_self, List.length_cons, List.length_nil, Nat.reduceAdd, Nat.reduceLT, Nat.reduceLeDiff]
        refine st h2 a2 (diesF mu (evP es x)) _ _ _ _ hct.symm (by rw [hct]) hM2 (fun k hk => by rw [u2 k hk]; exact u k hk) (mKeep_trans hk hk2) (MI_dies (by rw [← en]; exact hI) (by omega) z).1 hr2 ?_
        rw [hct]
        exact hrk
    · -- a cross
      have fk := e1 k
      rw [if_pos k] at hct
      rw [if_neg (by omega), if_neg (by omega)] at hrk
      have g0 : (nI (evK es x) = 0) = False := eq_false (by rw [k]; decide)
      have g2 : (nI (evK es x) = 2) = False := eq_false (by rw [k]; decide)
      have hcx : crs (es.take x) < crs es := by
        have q1 : crs es = crs (es.take (x + 1)) + crs (es.drop (x + 1)) := by rw [← crs_app, List.take_append_drop]
        omega
      rw [bits_at hcx] at hrk
      have hcT := cT_take (s := s) hcx
      rw [← hct] at hcT hrk
      have esh : nI s >>> (nI (crs es) - 1 - nI (crs (es.take x)) &&& 31) &&& 1 = (if bitL (crs es) s (crs (es.take x)) = true then 1 else 0) := by
        rw [show nI (crs es) - 1 - nI (crs (es.take x)) = nI (crs es - 1 - crs (es.take x)) by simp (disch := omega) only [z_nI, z_lit, z_neg, z_add, z_sub, z_mul, z_lt, z_le, z_eq, z_in, z_cl]; omega, sh_bit (by omega) (by omega)]
        unfold bitL
        by_cases q : s / 2 ^ (crs es - 1 - crs (es.take x)) % 2 = 1
        · simp [q]
          rfl
        · have : s / 2 ^ (crs es - 1 - crs (es.take x)) % 2 = 0 := by omega
          simp [this]
          rfl
      have ci : (nI x).toNatClampNeg = x := nI_clamp (by omega)
      have vi : vp_in (nI x) 30 := vp_in_nI (by omega) (by decide)
      have hm17 : a' 17 x = (if may x = true then 1 else 0) := by rw [u 17 (by decide)]; exact hmay x hx
      have hmt : ¬ mu (evP es x) = evP es x + 1 → MI (swF mu (evP es x)) (aN es x) := fun z => MI_sw hI fk.1 z
      cases hb : bitL (crs es) s (crs (es.take x)) with
      | true =>
        rw [hb] at esh hrk hcT
        simp only [↓reduceIte] at esh hcT
        have z143 : ∀ (g : Int32) (h2 : mH), MW G MX7_ruled (mz G d 0 0 post) 161 [some (.ref M), some (.int (nI f)), some (.int (nI s)), some (.int (nI (crs es))), some (.int (nI (aN es x))), some (.int (nI (crs (es.take (x + 1))))), some (.int (nI (cT ((bitsL (crs es) s).take (crs (es.take (x + 1))))))), some (.int (nI x)), some (.int (nI (evP es x))), some (.int (nI (evK es x))), some (.int g), some (.int 1)] [] h2 (N, 0, 0) → MW G MX7_ruled (mz G d 0 0 post) 141 [some (.ref M), some (.int (nI f)), some (.int (nI s)), some (.int (nI (crs es))), some (.int (nI (aN es x))), some (.int (nI (crs (es.take x)))), some (.int (nI (cT ((bitsL (crs es) s).take (crs (es.take x)))))), some (.int (nI x)), some (.int (nI (evP es x))), some (.int (nI (evK es x))), some (.int 1), some (.int 1)] [.int g] h2 (N, 0, 0) := by
          intro g h2 z
          refine MW.run1 gd_X7_ruled [12, 161] 14 ?_
          simp (disch := omega) only [↓EVk, ↓w_if_eq, ↓w_an_ite, ↓mEndK, ↓w_retK0, ↓w_fitK, ↓w_dupK, ↓w_dup2K, w_an_back, ↓EVd, ↓ft_X7_ruled, ↓reduceIte, ↓EV_obs, ↓EV_obn, ↓EV_ais, ↓EV_ain, mdF, mRun, List.mem_cons, List.not_mem_nil, or_false, mtab_eq, Nat.reduceEqDiff, Nat.zero_add, mset2, b10, b00, not_true_eq_false, not_false_eq_true, true_implies, false_implies, implies_true, and_true, true_and, Nat.le_refl, true_or, or_true, eq_self, List.length_cons, List.length_nil, Nat.reduceAdd, Nat.reduceLT, Nat.reduceLeDiff]
          rw [nI_1, nI_1, ← hct, ← hcT]
          exact z
        refine MW.run1 gd_X7_ruled [12, 110] 50 ?_
        simp (disch := omega) only [↓EVk, ↓w_if_eq, ↓w_an_ite, ↓mEndK, ↓w_retK0, ↓w_fitK, ↓w_dupK, ↓w_dup2K, w_an_back, ↓EVd, ↓ft_X7_ruled, ↓reduceIte, ↓EV_obs, ↓EV_obn, ↓EV_ais, ↓EV_ain, ↓EV_ob h0, ↓EV_ai a1', ↓EV_ai a2', ↓EV_ai a3', mdF, mRun, List.mem_cons, List.not_mem_nil, or_false, mtab_eq, Nat.reduceEqDiff, Nat.zero_add, hcf, vf, hs1, f1, hce, ve, hK, hP, g0, g2, esh, b11, mset2, b10, b00, not_true_eq_false, not_false_eq_true, true_implies, false_implies, implies_true, and_true, true_and, Nat.le_refl, true_or, or_true, eq_self, List.length_cons, List.length_nil, Nat.reduceAdd, Nat.reduceLT, Nat.reduceLeDiff]
        by_cases km : may x = true
        case neg =>
          rw [if_neg km] at hm17
          refine MW.run1 gd_X7_ruled [12, 141] 14 ?_
          simp (disch := omega) only [↓EVk, ↓w_if_eq, ↓w_an_ite, ↓mEndK, ↓w_retK0, ↓w_fitK, ↓w_dupK, ↓w_dup2K, w_an_back, ↓EVd, ↓ft_X7_ruled, ↓reduceIte, ↓EV_obs, ↓EV_obn, ↓EV_ais, ↓EV_ain, ↓EV_ob h0, ↓EV_ai a17', mdF, mRun, List.mem_cons, List.not_mem_nil, or_false, mtab_eq, Nat.reduceEqDiff, Nat.zero_add, ci, vi, hm17, mset2, b10, b00, not_true_eq_false, not_false_eq_true, true_implies, false_implies, implies_true, and_true, true_and, Nat.le_refl, true_or, or_true, eq_self, List.length_cons, List.length_nil, Nat.reduceAdd, Nat.reduceLT, Nat.reduceLeDiff]
          refine z143 0 h' (bad ?_ h' a' _ _ _ _ _ hM' u hk)
          rw [hrk]
          split
          · rfl
          · exact if_neg (c := may x = true ∧ ¬ mxd mu (evP es x)) (fun z => km z.1)
        rw [if_pos km] at hm17
        refine MW.run1 gd_X7_ruled [12, 141] 16 ?_
        simp (disch := omega) only [↓EVk, ↓w_if_eq, ↓w_an_ite, ↓mEndK, ↓w_retK0, ↓w_fitK, ↓w_dupK, ↓w_dup2K, w_an_back, ↓EVd, ↓ft_X7_ruled, ↓reduceIte, ↓EV_obs, ↓EV_obn, ↓EV_ais, ↓EV_ain, ↓EV_ob h0, ↓EV_ai a17', mdF, mRun, List.mem_cons, List.not_mem_nil, or_false, mtab_eq, Nat.reduceEqDiff, Nat.zero_add, ci, vi, hm17, hd1, mset2, b10, b00, not_true_eq_false, not_false_eq_true, true_implies, false_implies, implies_true, and_true, true_and, Nat.le_refl, true_or, or_true, eq_self, List.length_cons, List.length_nil, Nat.reduceAdd, Nat.reduceLT, Nat.reduceLeDiff]
        refine m_crossed (b := true) (by omega) hM' hI hr fk.1 (by omega) rfl rfl (fun z => ?_) (fun z1 _ z2 => ?_) (fun _ z => by cases z)
        · simp (disch := omega) only [↓EVk, ↓w_if_eq, ↓w_an_ite, ↓mEndK, ↓w_retK0, ↓w_fitK, ↓w_dupK, ↓w_dup2K, w_an_back, ↓EVd, ↓ft_X7_ruled, ↓reduceIte, ↓EV_obs, ↓EV_obn, ↓EV_ais, ↓EV_ain, mdF, mRun, List.mem_cons, List.not_mem_nil, or_false, mtab_eq, Nat.reduceEqDiff, Nat.zero_add, hd1, mset2, b10, b00, not_true_eq_false, not_false_eq_true, true_implies, false_implies, implies_true, and_true, true_and, Nat.le_refl, true_or, or_true, eq_self, List.length_cons, List.length_nil, Nat.reduceAdd, Nat.reduceLT, Nat.reduceLeDiff]
          refine z143 0 h' (bad ?_ h' a' _ _ _ _ _ hM' u hk)
          rw [hrk]
          rcases z with z | ⟨-, z⟩
          · rw [if_pos z]
          · split
            · rfl
            · exact if_neg (c := may x = true ∧ ¬ mxd mu (evP es x)) (fun q => q.2 z)
        · simp (disch := omega) only [↓EVk, ↓w_if_eq, ↓w_an_ite, ↓mEndK, ↓w_retK0, ↓w_fitK, ↓w_dupK, ↓w_dup2K, w_an_back, ↓EVd, ↓ft_X7_ruled, ↓reduceIte, ↓EV_obs, ↓EV_obn, ↓EV_ais, ↓EV_ain, mdF, mRun, List.mem_cons, List.not_mem_nil, or_false, mtab_eq, Nat.reduceEqDiff, Nat.zero_add, hd1, mset2, b10, b00, not_true_eq_false, not_false_eq_true, true_implies, false_implies, implies_true, and_true, true_and, Nat.le_refl, true_or, or_true, eq_self, List.length_cons, List.length_nil, Nat.reduceAdd, Nat.reduceLT, Nat.reduceLeDiff]
          rw [if_neg z1] at hrk
          simp only [km, z2, not_false_eq_true, and_self, ↓reduceIte] at hrk
          exact z143 1 h' (st h' a' mu _ _ _ _ rfl rfl hM' u hk (by rw [fk.2]; exact hI) (by rw [fk.2]; exact hr) hrk)
      | false =>
        rw [hb] at esh hrk hcT
        simp only [Bool.false_eq_true, ↓reduceIte, Nat.add_zero] at esh hcT
        have z143 : ∀ (g : Int32) (h2 : mH), MW G MX7_ruled (mz G d 0 0 post) 161 [some (.ref M), some (.int (nI f)), some (.int (nI s)), some (.int (nI (crs es))), some (.int (nI (aN es x))), some (.int (nI (crs (es.take (x + 1))))), some (.int (nI (cT ((bitsL (crs es) s).take (crs (es.take (x + 1))))))), some (.int (nI x)), some (.int (nI (evP es x))), some (.int (nI (evK es x))), some (.int g), some (.int 0)] [] h2 (N, 0, 0) → MW G MX7_ruled (mz G d 0 0 post) 141 [some (.ref M), some (.int (nI f)), some (.int (nI s)), some (.int (nI (crs es))), some (.int (nI (aN es x))), some (.int (nI (crs (es.take x)))), some (.int (nI (cT ((bitsL (crs es) s).take (crs (es.take x)))))), some (.int (nI x)), some (.int (nI (evP es x))), some (.int (nI (evK es x))), some (.int 1), some (.int 0)] [.int g] h2 (N, 0, 0) := by
          intro g h2 z
          refine MW.run1 gd_X7_ruled [12, 161] 14 ?_
          simp (disch := omega) only [↓EVk, ↓w_if_eq, ↓w_an_ite, ↓mEndK, ↓w_retK0, ↓w_fitK, ↓w_dupK, ↓w_dup2K, w_an_back, ↓EVd, ↓ft_X7_ruled, ↓reduceIte, ↓EV_obs, ↓EV_obn, ↓EV_ais, ↓EV_ain, mdF, mRun, List.mem_cons, List.not_mem_nil, or_false, mtab_eq, Nat.reduceEqDiff, Nat.zero_add, mset2, b10, b00, not_true_eq_false, not_false_eq_true, true_implies, false_implies, implies_true, and_true, true_and, Nat.le_refl, true_or, or_true, eq_self, List.length_cons, List.length_nil, Nat.reduceAdd, Nat.reduceLT, Nat.reduceLeDiff]
          rw [nI_1, ← hct, show nI (cT ((bitsL (crs es) s).take (crs (es.take x)))) + 0 = nI (cT ((bitsL (crs es) s).take (crs (es.take x)))) from nI_add _ 0, ← hcT]
          exact z
        refine MW.run1 gd_X7_ruled [12, 110] 50 ?_
        simp (disch := omega) only [↓EVk, ↓w_if_eq, ↓w_an_ite, ↓mEndK, ↓w_retK0, ↓w_fitK, ↓w_dupK, ↓w_dup2K, w_an_back, ↓EVd, ↓ft_X7_ruled, ↓reduceIte, ↓EV_obs, ↓EV_obn, ↓EV_ais, ↓EV_ain, ↓EV_ob h0, ↓EV_ai a1', ↓EV_ai a2', ↓EV_ai a3', mdF, mRun, List.mem_cons, List.not_mem_nil, or_false, mtab_eq, Nat.reduceEqDiff, Nat.zero_add, hcf, vf, hs1, f1, hce, ve, hK, hP, g0, g2, esh, b01, mset2, b10, b00, not_true_eq_false, not_false_eq_true, true_implies, false_implies, implies_true, and_true, true_and, Nat.le_refl, true_or, or_true, eq_self, List.length_cons, List.length_nil, Nat.reduceAdd, Nat.reduceLT, Nat.reduceLeDiff]
        refine MW.run1 gd_X7_ruled [12, 141] 16 ?_
        simp (disch := omega) only [↓EVk, ↓w_if_eq, ↓w_an_ite, ↓mEndK, ↓w_retK0, ↓w_fitK, ↓w_dupK, ↓w_dup2K, w_an_back, ↓EVd, ↓ft_X7_ruled, ↓reduceIte, ↓EV_obs, ↓EV_obn, ↓EV_ais, ↓EV_ain, ↓EV_ob h0, mdF, mRun, List.mem_cons, List.not_mem_nil, or_false, mtab_eq, Nat.reduceEqDiff, Nat.zero_add, hd1, mset2, b10, b00, not_true_eq_false, not_false_eq_true, true_implies, false_implies, implies_true, and_true, true_and, Nat.le_refl, true_or, or_true, eq_self, List.length_cons, List.length_nil, Nat.reduceAdd, Nat.reduceLT, Nat.reduceLeDiff]
        refine m_crossed (b := false) (by omega) hM' hI hr fk.1 (by omega) rfl rfl (fun z => ?_) (fun _ z => by cases z) (fun z1 _ h2 a2 hM2 hr2 u2 hk2 => ?_)
        · simp (disch := omega) only [↓EVk, ↓w_if_eq, ↓w_an_ite, ↓mEndK, ↓w_retK0, ↓w_fitK, ↓w_dupK, ↓w_dup2K, w_an_back, ↓EVd, ↓ft_X7_ruled, ↓reduceIte, ↓EV_obs, ↓EV_obn, ↓EV_ais, ↓EV_ain, mdF, mRun, List.mem_cons, List.not_mem_nil, or_false, mtab_eq, Nat.reduceEqDiff, Nat.zero_add, hd1, mset2, b10, b00, not_true_eq_false, not_false_eq_true, true_implies, false_implies, implies_true, and_true, true_and, Nat.le_refl, true_or, or_true, eq_self, List.length_cons, List.length_nil, Nat.reduceAdd, Nat.reduceLT, Nat.reduceLeDiff]
          refine z143 0 h' (bad ?_ h' a' _ _ _ _ _ hM' u hk)
          rw [hrk]
          rcases z with z | ⟨z, -⟩
          · rw [if_pos z]
          · cases z
        · simp (disch := omega) only [↓EVk, ↓w_if_eq, ↓w_an_ite, ↓mEndK, ↓w_retK0, ↓w_fitK, ↓w_dupK, ↓w_dup2K, w_an_back, ↓EVd, ↓ft_X7_ruled, ↓reduceIte, ↓EV_obs, ↓EV_obn, ↓EV_ais, ↓EV_ain, mdF, mRun, List.mem_cons, List.not_mem_nil, or_false, mtab_eq, Nat.reduceEqDiff, Nat.zero_add, hd1, mset2, b10, b00, not_true_eq_false, not_false_eq_true, true_implies, false_implies, implies_true, and_true, true_and, Nat.le_refl, true_or, or_true, eq_self, List.length_cons, List.length_nil, Nat.reduceAdd, Nat.reduceLT, Nat.reduceLeDiff]
          rw [if_neg z1] at hrk
          exact z143 1 h2 (st h2 a2 (swF mu (evP es x)) _ _ _ _ rfl rfl hM2 (fun k hk => by rw [u2 k hk]; exact u k hk) (mKeep_trans hk hk2) (by rw [fk.2]; exact hmt z1) (by rw [fk.2]; exact hr2) hrk)
  · rintro L h' ⟨a', mu, x8, x9, x10, x11, rfl, hM', u, hk, hI, hr, hrk⟩
    have h0 := hM'.1
    have a1' : h' (M + 1) = some (.inl (gC G 0, 8, .inl (a' 1))) := hM'.2 1 (by decide) (by decide)
    have hs1 : a' 1 f = nI es.length := by rw [u 1 (by decide)]; exact hs.1
    have f1 : (nI es.length ≤ nI es.length) = True := eq_true (nI_le (Nat.le_refl _) (by omega))
    rw [Nat.sub_self] at hrk
    have fin := hp h' a' hM' u hk
    rw [hrk] at fin
    have et : (bitsL (crs es) s).take (crs (es.take es.length)) = bitsL (crs es) s := by
      rw [List.take_length]
      exact List.take_of_length_le (by omega)
    rw [et]
    refine MW.run1 gd_X7_ruled [12] 10 ?_
    simp (disch := omega) only [↓EVk, ↓w_if_eq, ↓w_an_ite, ↓mEndK, ↓w_retK0, ↓w_fitK, ↓w_dupK, ↓w_dup2K, w_an_back, ↓EVd, ↓ft_X7_ruled, ↓reduceIte, ↓EV_obs, ↓EV_obn, ↓EV_ais, ↓EV_ain, ↓EV_ob h0, ↓EV_ai a1', mdF, mRun, List.mem_cons, List.not_mem_nil, or_false, mtab_eq, Nat.reduceEqDiff, Nat.zero_add, hcf, vf, hs1, f1, mset2, b10, b00, not_true_eq_false, not_false_eq_true, true_implies, false_implies, implies_true, and_true, true_and, Nat.le_refl, true_or, or_true, eq_self, List.length_cons, List.length_nil, Nat.reduceAdd, Nat.reduceLT, Nat.reduceLeDiff]
    exact fin
end GOS
