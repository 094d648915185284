/-! the model: layMay, ruled -/
/-- a row of choices, one a cross, makes a ruling from event x on -/
def rk (es : List Ev) (may : Nat → Bool) : Nat → Nat → (Nat → Nat) → List Bool → Bool
  | 0, _, _, _ => true
  | n + 1, x, mu, bs =>
    if evK es x = 0 then rk es may n (x + 1) (bornF mu (evP es x)) bs
    else if evK es x = 2 then (if mu (evP es x) = evP es x + 1 then rk es may n (x + 1) (diesF mu (evP es x)) bs else false)
    else (if mu (evP es x) = evP es x + 1 then false else match bs with
      | [] => false
      | true :: bs => if may x = true ∧ ¬ mxd mu (evP es x) then rk es may n (x + 1) mu bs else false
      | false :: bs => rk es may n (x + 1) (swF mu (evP es x)) bs)
def bitL (all s c : Nat) : Bool := decide (s / 2 ^ (all - 1 - c) % 2 = 1)
def bitsL (all s : Nat) : List Bool := (List.range all).map (bitL all s)
def cT (bs : List Bool) : Nat := bs.countP (fun b => b)
noncomputable def mayF (es : List Ev) (sort x : Nat) : Bool := decide (evK es x = 1) && (decide (sort = 0) || (if sort = 1 then plus es x else decide (degV es x = 0)))
def mayR (a : Nat → Nat → Int32) (es : List Ev) (may : Nat → Bool) : Prop := ∀ x, x < es.length → a 17 x = (if may x = true then 1 else 0)
theorem nar01 : vp_nar FieldType.boolean 1 = 1 ∧ vp_nar FieldType.boolean 0 = 0 := ⟨by decide, by decide⟩
theorem sh_bit {s t : Nat} (hs : s < 2 ^ 31) (ht : t < 12) : nI s >>> (nI t &&& 31) &&& 1 = nI (s / 2 ^ t % 2) := by
  have e1 : nI t &&& 31 = nI t := by
    have := pk_andN (n := t) (by omega) (m := 31) 5 (by decide)
    rw [this, Nat.mod_eq_of_lt (by omega)]
  have e2 : ((nI t).toBitVec.smod 32).toNat = t := by
    have key : ∀ t : Fin 12, ((nI t.val).toBitVec.smod 32).toNat = t.val := by decide
    exact key ⟨t, ht⟩
  rw [e1, pk_shrN hs (nI t) t e2]
  have h3 : s / 2 ^ t < 2 ^ 32 := by
    have := Nat.div_le_self s (2 ^ t)
    omega
  exact pk_andN h3 (m := 1) 1 (by decide)
theorem sh_all {t : Nat} (ht : t ≤ 12) : (1 : Int32) <<< (nI t &&& 31) = nI (2 ^ t) := by
  have key : ∀ t : Fin 13, (1 : Int32) <<< (nI t.val &&& 31) = nI (2 ^ t.val) := by decide
  exact key ⟨t, by omega⟩
theorem bits_at {all s c : Nat} (h : c < all) : (bitsL all s).drop c = bitL all s c :: (bitsL all s).drop (c + 1) := by
  have hl : (bitsL all s).length = all := by unfold bitsL; simp
  rw [List.drop_eq_getElem_cons (by omega)]
  congr 1
  unfold bitsL
  simp
theorem cT_take {all s c : Nat} (h : c < all) : cT ((bitsL all s).take (c + 1)) = cT ((bitsL all s).take c) + (if bitL all s c = true then 1 else 0) := by
  have hl : (bitsL all s).length = all := by unfold bitsL; simp
  have e : (bitsL all s).take (c + 1) = (bitsL all s).take c ++ [bitL all s c] := by
    rw [List.take_succ_eq_append_getElem (by omega)]
    congr 2
    unfold bitsL
    simp
  unfold cT
  rw [e, List.countP_append]
  cases bitL all s c <;> simp
section GOS
variable {G : mG} {d N M f : Nat} {es : List Ev} {h : mH} {post : Option Value → mH → Prop} {v : Nat → Int32} {a : Nat → Nat → Int32}
set_option maxRecDepth 10000 in
theorem m_layMay {sort : Nat} (hd : 1 ≤ d) (hw : whl es) (hs : slotR a f es) (hf : f < 8) (ht : trR es (trT es) v a) (hM : ModelC h G M v a) (hso : sort ≤ 2)
    (hp : ∀ h' a', ModelC h' G M v a' → mayR a' es (mayF es sort) → (∀ k, k ≠ 17 → a' k = a k) → mKeep h h' M (M + 17) → post none h') : MC G MX7_layMay d 0 0 [.ref M, .int (nI f), .int (nI sort)] h N post := by
  have b30 := (vld_bd hw.1).1
  have hcf : (nI f).toNatClampNeg = f := nI_clamp (by omega)
  have vf : vp_in (nI f) 8 := vp_in_nI hf (by decide)
  have h0 := hM.1
  refine MC.of (L0 := [some (.ref M), some (.int (nI f)), some (.int (nI sort)), none]) gd_X7_layMay (Nat.le_of_ble_eq_true rfl) rfl (MW.run gd_X7_layMay [2] 10 ?_)
  simp (disch := omega) only [↓EVi, ↓EVc, ↓ft_X7_layMay, ↓reduceIte, ↓EV_obs, ↓EV_obn, ↓EV_ais, ↓EV_ain, ↓EV_ob h0, mdF, mRun, List.mem_cons, List.not_mem_nil, or_false, mtab_eq, Nat.reduceEqDiff, Nat.zero_add, mset2, b10, b00, not_true_eq_false, not_false_eq_true, true_implies, false_implies, implies_true, and_true, true_and, Nat.le_refl, true_or, or_true, eq_self, List.length_cons, List.length_nil, Nat.reduceAdd, Nat.reduceLT, Nat.reduceLeDiff]
  refine MW.upto es.length (fun i L h' => ∃ a', L = [some (.ref M), some (.int (nI f)), some (.int (nI sort)), some (.int (nI i))] ∧ ModelC h' G M v a' ∧ (∀ x, x < i → a' 17 x = (if mayF es sort x = true then 1 else 0)) ∧ (∀ k, k ≠ 17 → a' k = a k) ∧ mKeep h h' M (M + 17)) ?_ ?_ 0 _ _ (Nat.zero_le _) ⟨a, rfl, hM, fun x hx => absurd hx (Nat.not_lt_zero x), fun _ _ => rfl, mKeep_rfl⟩
  · rintro i L h' hi ⟨a', rfl, hM', u1, u2, hk⟩ ih
    have h0 := hM'.1
    have a1' : h' (M + 1) = some (.inl (gC G 0, 8, .inl (a' 1))) := hM'.2 1 (by decide) (by decide)
    have a2' : h' (M + 2) = some (.inl (gC G 0, 240, .inl (a' 2))) := hM'.2 2 (by decide) (by decide)
    have a17 : h' (M + 17) = some (.inl (gC G 2, 30, .inl (a' 17))) := hM'.2 17 (by decide) (by decide)
    have hs' : slotR a' f es := slotR_congr (u2 1 (by decide)) (u2 2 (by decide)) (u2 3 (by decide)) hs
    have ht' : trR es (trT es) v a' := trR_congr ht rfl (fun k hk => u2 k (by omega))
    have hs1 := hs'.1
    obtain ⟨hK, hP⟩ := hs'.2 i hi
    have sm := vld_sm hw.1 hi
    have f1 : (nI es.length ≤ nI i) = False := eq_false (by simp (disch := omega) only [z_nI, z_lit, z_neg, z_add, z_sub, z_mul, z_lt, z_le, z_eq, z_in, z_cl]; omega)
    have hce : (30 * nI f + nI i).toNatClampNeg = 30 * f + i := by simp (disch := omega) only [z_nI, z_lit, z_neg, z_add, z_sub, z_mul, z_lt, z_le, z_eq, z_in, z_cl]; omega
    have ve : vp_in (30 * nI f + nI i) 240 := by simp (disch := omega) only [z_nI, z_lit, z_neg, z_add, z_sub, z_mul, z_lt, z_le, z_eq, z_in, z_cl]; omega
    have ci : (nI i).toNatClampNeg = i := nI_clamp (by omega)
    have vi : vp_in (nI i) 30 := vp_in_nI (by omega) (by decide)
    have st : ∀ (b : Bool), b = mayF es sort i → MW G MX7_layMay (mz G d 0 0 post) 67 [some (.ref M), some (.int (nI f)), some (.int (nI sort)), some (.int (nI i))] [.int (if b = true then 1 else 0), .int (nI i), .ref (M + 17)] h' (N, 0, 0) := by
      intro b hb
      have nx : ∀ y : Int32, y = (if b = true then 1 else 0) → MW G MX7_layMay (mz G d 0 0 post) 2 [some (.ref M), some (.int (nI f)), some (.int (nI sort)), some (.int (nI (i + 1)))] [] (mset h' (M + 17) (.inl (gC G 2, 30, .inl (upd (a' 17) i y)))) (N, 0, 0) := by
        intro y hy
        subst hy
        refine ih _ _ ⟨_, rfl, ModelC_a (k := 17) (f := upd (a' 17) i (if b = true then 1 else 0)) hM' (by decide) (by decide), fun x hx => ?_, fun k hk => ?_, fun z hz => by rw [mset_ne (by omega)]; exact hk z hz⟩
        · show upd (a' 17) i _ x = _
          by_cases e : x = i
          · subst e
            rw [pk_us, hb]
          · rw [pk_un e]
            exact u1 x (by omega)
        · unfold aset
          rw [if_neg hk]
          exact u2 k hk
      cases b with
      | true =>
        refine MW.run1 gd_X7_layMay [2] 8 ?_
        simp (disch := omega) only [↓EVi, ↓EVc, ↓ft_X7_layMay, ↓reduceIte, ↓EV_obs, ↓EV_obn, ↓EV_ais, ↓EV_ain, ↓EV_ob h0, ↓EV_ai a17, mdF, mRun, List.mem_cons, List.not_mem_nil, or_false, mtab_eq, Nat.reduceEqDiff, Nat.zero_add, ci, vi, mset2, b10, b00, not_true_eq_false, not_false_eq_true, true_implies, false_implies, implies_true, and_true, true_and, Nat.le_refl, true_or, or_true, eq_self, List.length_cons, List.length_nil, Nat.reduceAdd, Nat.reduceLT, Nat.reduceLeDiff]
        rw [nar01.1, nI_1]
        exact nx _ rfl
      | false =>
        refine MW.run1 gd_X7_layMay [2] 8 ?_
        simp (disch := omega) only [↓EVi, ↓EVc, ↓ft_X7_layMay, ↓reduceIte, ↓EV_obs, ↓EV_obn, ↓EV_ais, ↓EV_ain, ↓EV_ob h0, ↓EV_ai a17, mdF, mRun, List.mem_cons, List.not_mem_nil, or_false, mtab_eq, Nat.reduceEqDiff, Nat.zero_add, ci, vi, Bool.false_eq_true, mset2, b10, b00, not_true_eq_false, not_false_eq_true, true_implies, false_implies, implies_true, and_true, true_and, Nat.le_refl, true_or, or_true, eq_self, List.length_cons, List.length_nil, Nat.reduceAdd, Nat.reduceLT, Nat.reduceLeDiff]
        rw [nar01.2, nI_1]
        exact nx _ rfl
    have stT := st true
    have stF := st false
    simp only [Bool.false_eq_true, ↓reduceIte] at stT stF
    have em : mayF es sort i = (decide (evK es i = 1) && (decide (sort = 0) || (if sort = 1 then plus es i else decide (degV es i = 0)))) := rfl
    clear st ih
    by_cases k1 : evK es i = 1
    case neg =>
      have f2 : (nI (evK es i) = 1) = False := eq_false (fun z => k1 ((nI_eq (b := 1) (by omega) (by omega)).mp z))
      refine MW.run1 gd_X7_layMay [2, 67] 24 ?_
      simp (disch := omega) only [↓EVk, ↓w_if_eq, ↓w_an_ite, ↓mEndK, ↓w_retK0, ↓w_fitK, ↓w_dupK, ↓w_dup2K, w_an_back, ↓EVd, ↓ft_X7_layMay, ↓reduceIte, ↓EV_obs, ↓EV_obn, ↓EV_ais, ↓EV_ain, ↓EV_ob h0, ↓EV_ai a1', ↓EV_ai a2', mdF, mRun, List.mem_cons, List.not_mem_nil, or_false, mtab_eq, Nat.reduceEqDiff, Nat.zero_add, hcf, vf, hs1, f1, hce, ve, hK, f2, mset2, b10, b00, not_true_eq_false, not_false_eq_true, true_implies, false_implies, implies_true, and_true, true_and, Nat.le_refl, true_or, or_true, eq_self, List.length_cons, List.length_nil, Nat.reduceAdd, Nat.reduceLT, Nat.reduceLeDiff]
      exact stF (by rw [em]; simp [k1])
    have f2 : (nI (evK es i) = 1) = True := eq_true (by rw [k1]; rfl)
    have dd : decide (evK es i = 1) = true := by simp [k1]
    rw [dd, Bool.true_and] at em
    rcases (by omega : sort = 0 ∨ sort = 1 ∨ sort = 2) with rfl | rfl | rfl
    · have g1 : (nI 0 = (0 : Int32)) = True := eq_true rfl
      refine MW.run1 gd_X7_layMay [2, 67] 24 ?_
      simp (disch := omega) only [↓EVk, ↓w_if_eq, ↓w_an_ite, ↓mEndK, ↓w_retK0, ↓w_fitK, ↓w_dupK, ↓w_dup2K, w_an_back, ↓EVd, ↓ft_X7_layMay, ↓reduceIte, ↓EV_obs, ↓EV_obn, ↓EV_ais, ↓EV_ain, ↓EV_ob h0, ↓EV_ai a1', ↓EV_ai a2', mdF, mRun, List.mem_cons, List.not_mem_nil, or_false, mtab_eq, Nat.reduceEqDiff, Nat.zero_add, hcf, vf, hs1, f1, hce, ve, hK, f2, g1, mset2, b10, b00, not_true_eq_false, not_false_eq_true, true_implies, false_implies, implies_true, and_true, true_and, Nat.le_refl, true_or, or_true, eq_self, List.length_cons, List.length_nil, Nat.reduceAdd, Nat.reduceLT, Nat.reduceLeDiff]
      exact stT (by rw [em]; simp)
    · have g1 : (nI 1 = (0 : Int32)) = False := eq_false (by decide)
      have g2 : (nI 1 = (1 : Int32)) = True := eq_true rfl
      refine MW.run1 gd_X7_layMay [2, 67] 36 ?_
      simp (disch := omega) only [↓EVk, ↓w_if_eq, ↓w_an_ite, ↓mEndK, ↓w_retK0, ↓w_fitK, ↓w_dupK, ↓w_dup2K, w_an_back, ↓EVd, ↓ft_X7_layMay, ↓reduceIte, ↓EV_obs, ↓EV_obn, ↓EV_ais, ↓EV_ain, ↓EV_ob h0, ↓EV_ai a1', ↓EV_ai a2', mdF, mRun, List.mem_cons, List.not_mem_nil, or_false, mtab_eq, Nat.reduceEqDiff, Nat.zero_add, hcf, vf, hs1, f1, hce, ve, hK, f2, g1, g2, hd, mset2, b10, b00, not_true_eq_false, not_false_eq_true, true_implies, false_implies, implies_true, and_true, true_and, Nat.le_refl, true_or, or_true, eq_self, List.length_cons, List.length_nil, Nat.reduceAdd, Nat.reduceLT, Nat.reduceLeDiff]
      refine m_isPlus hw hs' hf ht' hM' hi k1 ?_
      cases hpl : plus es i with
      | true =>
        simp only [↓reduceIte]
        simp (disch := omega) only [↓EVk, ↓w_if_eq, ↓w_an_ite, ↓mEndK, ↓w_retK0, ↓w_fitK, ↓w_dupK, ↓w_dup2K, w_an_back, ↓EVd, ↓ft_X7_layMay, ↓reduceIte, ↓EV_obs, ↓EV_obn, ↓EV_ais, ↓EV_ain, ↓EV_ob h0, mdF, mRun, List.mem_cons, List.not_mem_nil, or_false, mtab_eq, Nat.reduceEqDiff, Nat.zero_add, hd, mset2, b10, b00, not_true_eq_false, not_false_eq_true, true_implies, false_implies, implies_true, and_true, true_and, Nat.le_refl, true_or, or_true, eq_self, List.length_cons, List.length_nil, Nat.reduceAdd, Nat.reduceLT, Nat.reduceLeDiff]
        exact stT (by rw [em, hpl]; simp)
      | false =>
        simp only [Bool.false_eq_true, ↓reduceIte]
        simp (disch := omega) only [↓EVk, ↓w_if_eq, ↓w_an_ite, ↓mEndK, ↓w_retK0, ↓w_fitK, ↓w_dupK, ↓w_dup2K, w_an_back, ↓EVd, ↓ft_X7_layMay, ↓reduceIte, ↓EV_obs, ↓EV_obn, ↓EV_ais, ↓EV_ain, ↓EV_ob h0, mdF, mRun, List.mem_cons, List.not_mem_nil, or_false, mtab_eq, Nat.reduceEqDiff, Nat.zero_add, hd, mset2, b10, b00, not_true_eq_false, not_false_eq_true, true_implies, false_implies, implies_true, and_true, true_and, Nat.le_refl, true_or, or_true, eq_self, List.length_cons, List.length_nil, Nat.reduceAdd, Nat.reduceLT, Nat.reduceLeDiff]
        exact stF (by rw [em, hpl]; simp)
    · have g1 : (nI 2 = (0 : Int32)) = False := eq_false (by decide)
      have g2 : (nI 2 = (1 : Int32)) = False := eq_false (by decide)
      refine MW.run1 gd_X7_layMay [2, 67] 36 ?_
      simp (disch := omega) only [↓EVk, ↓w_if_eq, ↓w_an_ite, ↓mEndK, ↓w_retK0, ↓w_fitK, ↓w_dupK, ↓w_dup2K, w_an_back, ↓EVd, ↓ft_X7_layMay, ↓reduceIte, ↓EV_obs, ↓EV_obn, ↓EV_ais, ↓EV_ain, ↓EV_ob h0, ↓EV_ai a1', ↓EV_ai a2', mdF, mRun, List.mem_cons, List.not_mem_nil, or_false, mtab_eq, Nat.reduceEqDiff, Nat.zero_add, hcf, vf, hs1, f1, hce, ve, hK, f2, g1, g2, hd, mset2, b10, b00, not_true_eq_false, not_false_eq_true, true_implies, false_implies, implies_true, and_true, true_and, Nat.le_refl, true_or, or_true, eq_self, List.length_cons, List.length_nil, Nat.reduceAdd, Nat.reduceLT, Nat.reduceLeDiff]
      refine m_degreeOf hw hs' hf ht' hM' hi k1 ?_
      by_cases k3 : degV es i = 0
      · have g3 : (degV es i = 0) = True := eq_true k3
        simp (disch := omega) only [↓EVk, ↓w_if_eq, ↓w_an_ite, ↓mEndK, ↓w_retK0, ↓w_fitK, ↓w_dupK, ↓w_dup2K, w_an_back, ↓EVd, ↓ft_X7_layMay, ↓reduceIte, ↓EV_obs, ↓EV_obn, ↓EV_ais, ↓EV_ain, ↓EV_ob h0, mdF, mRun, List.mem_cons, List.not_mem_nil, or_false, mtab_eq, Nat.reduceEqDiff, Nat.zero_add, hd, g3, mset2, b10, b00, not_true_eq_false, not_false_eq_true, true_implies, false_implies, implies_true, and_true, true_and, Nat.le_refl, true_or, or_true, eq_self, List.length_cons, List.length_nil, Nat.reduceAdd, Nat.reduceLT, Nat.reduceLeDiff]
        exact stT (by rw [em]; simp [k3])
      · have g3 : (degV es i = 0) = False := eq_false k3
        simp (disch := omega) only [↓EVk, ↓w_if_eq, ↓w_an_ite, ↓mEndK, ↓w_retK0, ↓w_fitK, ↓w_dupK, ↓w_dup2K, w_an_back, ↓EVd, ↓ft_X7_layMay, ↓reduceIte, ↓EV_obs, ↓EV_obn, ↓EV_ais, ↓EV_ain, ↓EV_ob h0, mdF, mRun, List.mem_cons, List.not_mem_nil, or_false, mtab_eq, Nat.reduceEqDiff, Nat.zero_add, hd, g3, mset2, b10, b00, not_true_eq_false, not_false_eq_true, true_implies, false_implies, implies_true, and_true, true_and, Nat.le_refl, true_or, or_true, eq_self, List.length_cons, List.length_nil, Nat.reduceAdd, Nat.reduceLT, Nat.reduceLeDiff]
        exact stF (by rw [em]; simp [k3])
  · rintro L h' ⟨a', rfl, hM', u1, u2, hk⟩
    have h0 := hM'.1
    have a1' : h' (M + 1) = some (.inl (gC G 0, 8, .inl (a' 1))) := hM'.2 1 (by decide) (by decide)
    have hs1 : a' 1 f = nI es.length := by rw [u2 1 (by decide)]; exact hs.1
    have f1 : (nI es.length ≤ nI es.length) = True := eq_true (nI_le (Nat.le_refl _) (by omega))
    refine MW.run1 gd_X7_layMay [2] 10 ?_
    simp (disch := omega) only [↓EVk, ↓w_if_eq, ↓w_an_ite, ↓mEndK, ↓w_retK0, ↓w_fitK, ↓w_dupK, ↓w_dup2K, w_an_back, ↓EVd, ↓ft_X7_layMay, ↓reduceIte, ↓EV_obs, ↓EV_obn, ↓EV_ais, ↓EV_ain, ↓EV_ob h0, ↓EV_ai a1', mdF, mRun, List.mem_cons, List.not_mem_nil, or_false, mtab_eq, Nat.reduceEqDiff, Nat.zero_add, hcf, vf, hs1, f1, mset2, b10, b00, not_true_eq_false, not_false_eq_true, true_implies, false_implies, implies_true, and_true, true_and, Nat.le_refl, true_or, or_true, eq_self, List.length_cons, List.length_nil, Nat.reduceAdd, Nat.reduceLT, Nat.reduceLeDiff]
    exact hp h' a' hM' u1 u2 hk
end GOS
