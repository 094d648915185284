/-! the state that both sides show, and the model's cells that hold it -/
abbrev Sh : Type := Int32 × Nat × (Nat → Int32)
/-- fronts, tape, fault, sheets -/
abbrev AS : Type := List (List Ev) × List Nat × Nat × (Nat → Sh)
def whl (es : List Ev) : Prop := vld es ∧ es ≠ [] ∧ ahL es = 0
def SInv (S : AS) : Prop := S.1.length ≤ 8 ∧ (∀ f, f < S.1.length → whl (S.1.getD f [])) ∧ S.2.1.length ≤ 120 ∧ (∀ i, i < S.2.1.length → S.2.1.getD i 0 < 256) ∧ S.2.2.1 ≤ 4 ∧ ∀ k, k < 4 → ((S.2.2.2 k).1 = -4 ∨ (S.2.2.2 k).1 = 0 ∨ (S.2.2.2 k).1 = 1 ∨ (S.2.2.2 k).1 = 2) ∧ (S.2.2.2 k).2.1 ≤ 62
def MRel (v : Nat → Int32) (a : Nat → Nat → Int32) (S : AS) : Prop := v 0 = nI S.1.length ∧ (∀ f, f < S.1.length → slotR a f (S.1.getD f [])) ∧ v 8 = nI S.2.1.length ∧ (∀ i, i < S.2.1.length → a 6 i = nI (S.2.1.getD i 0)) ∧ v 9 = nI S.2.2.1 ∧ ∀ k, k < 4 → a 7 k = (S.2.2.2 k).1 ∧ a 8 k = nI (S.2.2.2 k).2.1 ∧ ∀ i, i < 62 → a 9 (62 * k + i) = (S.2.2.2 k).2.2 i
theorem slotR_congr {a a' : Nat → Nat → Int32} {f : Nat} {es : List Ev} (h1 : a' 1 = a 1) (h2 : a' 2 = a 2) (h3 : a' 3 = a 3) (h : slotR a f es) : slotR a' f es := by
  unfold slotR
  rw [h1, h2, h3]
  exact h
theorem MRel_congr {v v' : Nat → Int32} {a a' : Nat → Nat → Int32} {S : AS} (h : MRel v a S) (hv : ∀ k, k = 0 ∨ k = 8 ∨ k = 9 → v' k = v k) (ha : ∀ k, k ≤ 3 ∨ 6 ≤ k ∧ k ≤ 9 → a' k = a k) : MRel v' a' S := by
  unfold MRel
  rw [hv 0 (by omega), hv 8 (by omega), hv 9 (by omega), ha 6 (by omega), ha 7 (by omega), ha 8 (by omega), ha 9 (by omega)]
  exact ⟨h.1, fun f hf => slotR_congr (ha 1 (by omega)) (ha 2 (by omega)) (ha 3 (by omega)) (h.2.1 f hf), h.2.2⟩
def MR (h : mH) (G : mG) (M : Nat) (S : AS) : Prop := ∃ v a, ModelC h G M v a ∧ MRel v a S
theorem arg_ix (x : Int32) {n : Nat} (hn : n < 2 ^ 31) : ¬ (0 ≤ x ∧ x < nI n) ∨ ∃ q, q < n ∧ x = nI q := by
  by_cases c : 0 ≤ x ∧ x < nI n
  · obtain ⟨q, hq, rfl⟩ := nI_of (x := x) (by rw [Int32.not_lt]; exact c.1)
    exact Or.inr ⟨q, (nI_ltI hq hn).mp c.2, rfl⟩
  · exact Or.inl c
theorem arg_ok {q n : Nat} (h : q < n) (hn : n < 2 ^ 31) : 0 ≤ nI q ∧ nI q < nI n := ⟨nI_pos' (by omega), nI_lt h hn⟩
theorem le_pred (x : Int32) {n : Nat} (hn : n < 2 ^ 31) : (x ≤ nI n - 1) = (x < nI n) := by
  obtain ⟨z, z1, z2, rfl⟩ := z_of x
  simp (disch := omega) only [z_nI, z_lit, z_neg, z_add, z_sub, z_mul, z_lt, z_le, z_eq, z_in, z_cl]
  exact propext ⟨fun _ => by omega, fun _ => by omega⟩
abbrev isF (S : AS) (f : Int32) : Prop := 0 ≤ f ∧ f < nI S.1.length
def fr (S : AS) (f : Int32) : List Ev := S.1.getD f.toNatClampNeg []
theorem isF_c (S : AS) (f : Int32) (hI : SInv S) : ¬ isF S f ∨ ∃ q, q < S.1.length ∧ f = nI q ∧ isF S f ∧ fr S f = S.1.getD q [] := by
  have := hI.1
  rcases arg_ix f (n := S.1.length) (by omega) with c | ⟨q, h1, rfl⟩
  · exact Or.inl c
  · exact Or.inr ⟨q, h1, rfl, arg_ok h1 (by omega), by unfold fr; rw [nI_clamp (by omega)]⟩
theorem getD_set_l {α : Type} {l : List α} {n i : Nat} {x d : α} (h : i < n) (hl : n ≤ l.length) : (l.take n).getD i d = l.getD i d := by
  rw [List.getD_eq_getElem?_getD, List.getElem?_take, if_pos h, ← List.getD_eq_getElem?_getD]
theorem getD_app_l {α : Type} {l m : List α} {i : Nat} {d : α} (h : i < l.length) : (l ++ m).getD i d = l.getD i d := by
  rw [List.getD_eq_getElem?_getD, List.getElem?_append_left h, ← List.getD_eq_getElem?_getD]
theorem getD_app_e {α : Type} {l : List α} {x d : α} : (l ++ [x]).getD l.length d = x := by
  rw [List.getD_eq_getElem?_getD, List.getElem?_append_right (Nat.le_refl _)]
  simp
def aFault (S : AS) : Int32 × AS := (nI S.2.2.1, S)
def aDrop (S : AS) : Int32 × AS := if S.1.length = 0 then (-4, S) else (nI (S.1.length - 1), (S.1.take (S.1.length - 1), S.2))
def aEnd (n : Int32) (S : AS) : Int32 × AS := if 0 ≤ n ∧ n ≤ nI S.2.1.length then (nI S.2.1.length, (S.1, S.2.1.take n.toNatClampNeg, S.2.2)) else (-1, S)
def aCount (k : Int32) (S : AS) : Int32 × AS := (if k = 0 then nI S.1.length else if k = 1 then (if (S.2.2.2 0).1 = -4 then -4 else nI (S.2.2.2 0).2.1) else if k = 2 then nI S.2.1.length else -1, S)
def aCopy (f : Int32) (S : AS) : Int32 × AS := if isF S f then (if S.1.length = 8 then (-3, S) else (nI S.1.length, (S.1 ++ [fr S f], S.2))) else (-1, S)
def aEvent (f i w : Int32) (S : AS) : Int32 × AS := (if isF S f ∧ (0 ≤ i ∧ i < nI (fr S f).length) ∧ (0 ≤ w ∧ w ≤ 2) then (if w = 0 then nI (evK (fr S f) i.toNatClampNeg) else if w = 1 then nI (evP (fr S f) i.toNatClampNeg) else nI (ahL ((fr S f).take i.toNatClampNeg))) else -1, S)
def aJoin (f g : Int32) (S : AS) : Int32 × AS := if isF S f ∧ isF S g then (if S.1.length = 8 ∨ 32 < (fr S f).length + (fr S g).length ∨ 12 < crs (fr S f) + crs (fr S g) then (-3, S) else (nI S.1.length, (S.1 ++ [(fr S f).take ((fr S f).length - 1) ++ (fr S g).drop 1], S.2))) else (-1, S)
section MRS
variable {G : mG} {d N M : Nat} {S : AS} {h : mH} {post : Option Value → mH → Prop}
theorem M_fault (hR : MR h G M S) (hp : ∀ h', MR h' G M (aFault S).2 → mKeep h h' M (M + 17) → post (some (.int (aFault S).1)) h') : MC G MX7_fault d 0 0 [.ref M] h N post := by
  have hR0 := hR
  obtain ⟨v, a, hM, hL⟩ := hR
  refine m_fault hM ?_
  rw [hL.2.2.2.2.1]
  exact hp h hR0 mKeep_rfl
theorem mKeep_w {h h' : mH} {M b : Nat} (hk : mKeep h h' M M) : mKeep h h' M (M + b) := fun q hq => hk q (by omega)
theorem M_drop (hI : SInv S) (hR : MR h G M S) (hp : ∀ h', MR h' G M (aDrop S).2 → mKeep h h' M (M + 17) → post (some (.int (aDrop S).1)) h') : MC G MX7_drop d 0 0 [.ref M] h N post := by
  have hR0 := hR
  have h8 := hI.1
  obtain ⟨v, a, hM, hL⟩ := hR
  have e0 : (v 0 = 0) ↔ S.1.length = 0 := by
    rw [hL.1]
    exact nI_eq (b := 0) (by omega) (by omega)
  refine m_drop hM (fun c => ?_) (fun c h' hM' hk => ?_)
  · unfold aDrop at hp
    rw [if_pos (e0.mp c)] at hp
    exact hp h hR0 mKeep_rfl
  · unfold aDrop at hp
    have c' : ¬ S.1.length = 0 := fun z => c (e0.mpr z)
    rw [if_neg c'] at hp
    rw [hL.1] at hM' ⊢
    rw [show nI S.1.length - 1 = nI (S.1.length - 1) from pk_sub (b := 1) (by omega)] at hM' ⊢
    refine hp h' ⟨_, a, hM', by rw [pk_us]; simp, fun f hf => ?_, ?_⟩ (mKeep_w hk)
    · rw [List.length_take] at hf
      show slotR a f ((S.1.take (S.1.length - 1)).getD f [])
      rw [getD_set_l (x := []) (by omega) (by omega)]
      exact hL.2.1 f (by omega)
    · rw [pk_un (by decide), pk_un (by decide)]
      exact hL.2.2
theorem M_end {n : Int32} (hd : 1 ≤ d) (hI : SInv S) (hR : MR h G M S) (hp : ∀ h', MR h' G M (aEnd n S).2 → mKeep h h' M (M + 17) → post (some (.int (aEnd n S).1)) h') : MC G MX7_end d 0 0 [.ref M, .int n] h N post := by
  have hR0 := hR
  have h120 := hI.2.2.1
  obtain ⟨v, a, hM, hL⟩ := hR
  have e8 := hL.2.2.1
  refine m_end hd hM (fun c => ?_) (fun c h' hM' hk => ?_)
  · rw [e8] at c
    unfold aEnd at hp
    rw [if_neg c] at hp
    exact hp h hR0 mKeep_rfl
  · rw [e8] at c ⊢
    unfold aEnd at hp
    rw [if_pos c] at hp
    obtain ⟨q, hq, rfl⟩ := nI_of (x := n) (by rw [Int32.not_lt]; exact c.1)
    have hq2 : q ≤ S.2.1.length := (nI_leI hq (by omega)).mp c.2
    rw [nI_clamp hq] at hp
    refine hp h' ⟨_, a, hM', by rw [pk_un (by decide)]; exact hL.1, hL.2.1, ?_, fun i hi => ?_, by rw [pk_un (by decide)]; exact hL.2.2.2.2.1, hL.2.2.2.2.2⟩ (mKeep_w hk)
    · rw [pk_us]
      show nI q = nI (S.2.1.take q).length
      rw [List.length_take]
      congr 1
      omega
    · have hi' : i < (S.2.1.take q).length := hi
      rw [List.length_take] at hi'
      show a 6 i = nI ((S.2.1.take q).getD i 0)
      rw [getD_set_l (x := 0) (by omega) (by omega)]
      exact hL.2.2.2.1 i (by omega)
theorem M_count {k : Int32} (hR : MR h G M S) (hp : ∀ h', MR h' G M (aCount k S).2 → mKeep h h' M (M + 17) → post (some (.int (aCount k S).1)) h') : MC G MX7_count d 0 0 [.ref M, .int k] h N post := by
  have hR0 := hR
  obtain ⟨v, a, hM, hL⟩ := hR
  refine m_count hM ?_
  obtain ⟨s1, s2, -⟩ := hL.2.2.2.2.2 0 (by decide)
  rw [hL.1, hL.2.2.1, s1, s2]
  exact hp h hR0 mKeep_rfl
set_option maxRecDepth 10000 in
theorem M_added {v : Nat → Int32} {a : Nat → Nat → Int32} {es : List Ev} (hd : 1 ≤ d) (hI : SInv S) (hM : ModelC h G M v a) (hL : MRel v a S) (hN : newR v a es) (h30 : es.length ≤ 30) (h8 : S.1.length < 8)
    (hp : ∀ h', MR h' G M (S.1 ++ [es], S.2) → mKeep h h' M (M + 17) → post (some (.int (nI S.1.length))) h') : MC G MX7_added d 0 0 [.ref M] h N post := by
  have h0 := hM.1
  refine MC.of (L0 := [some (.ref M)]) gd_X7_added (Nat.le_of_ble_eq_true rfl) rfl (MW.run gd_X7_added [] 30 ?_)
  simp (disch := omega) only [↓EVi, ↓EVc, ↓ft_X7_added, ↓reduceIte, ↓EV_obs, ↓EV_obn, ↓EV_ais, ↓EV_ain, ↓EV_ob h0, mdF, mRun, List.mem_cons, List.not_mem_nil, or_false, mtab_eq, Nat.reduceEqDiff, Nat.zero_add]
  refine ⟨hd, by decide, ?_⟩
  rw [hL.1]
  refine m_store hM hN h8 h30 (fun h' a' hM' hs ho hk4 hk => ?_)
  have h0' := hM'.1
  simp (disch := omega) only [↓EVi, ↓EVc, ↓ft_X7_added, ↓reduceIte, ↓EV_obs, ↓EV_obn, ↓EV_ais, ↓EV_ain, ↓EV_ob h0', mdF, mRun, List.mem_cons, List.not_mem_nil, or_false, mtab_eq, Nat.reduceEqDiff, Nat.zero_add]
  rw [hL.1, nI_1, show nI (S.1.length + 1) - 1 = nI S.1.length from nI_pred _]
  refine ⟨trivial, Nat.le_of_ble_eq_true rfl, trivial, Nat.le_refl _, hp _ ⟨_, a', ModelC_v (v' := upd v 0 (nI (S.1.length + 1))) hM', by rw [pk_us]; simp, fun f hf => ?_, by rw [pk_un (by decide)]; exact hL.2.2.1, fun i hi => ?_, by rw [pk_un (by decide)]; exact hL.2.2.2.2.1, ?_⟩ (fun q hq => ?_)⟩
  · show slotR a' f ((S.1 ++ [es]).getD f [])
    have hf' : f < S.1.length + 1 := by simpa using hf
    by_cases c : f = S.1.length
    · subst c
      rw [getD_app_e]
      exact hs
    · rw [getD_app_l (by omega)]
      exact ho f _ c (vld_bd (hI.2.1 f (by omega)).1).1 (hL.2.1 f (by omega))
  · rw [hk4 6 (by decide)]
    exact hL.2.2.2.1 i hi
  · rw [hk4 7 (by decide), hk4 8 (by decide), hk4 9 (by decide)]
    exact hL.2.2.2.2.2
  · rw [mset_ne (by omega)]
    exact hk q hq
theorem c_is {v : Nat → Int32} {a : Nat → Nat → Int32} {f : Int32} (hd : 1 ≤ d) (hI : SInv S) (hM : ModelC h G M v a) (hL : MRel v a S) (hp : post (some (.int (if isF S f then 1 else 0))) h) : MC G MX7_is d 0 0 [.ref M, .int f] h N post := by
  refine m_is hd hM ?_
  have h8 := hI.1
  simp (disch := omega) only [hL.1, le_pred]
  exact hp
theorem c_isEvent {v : Nat → Int32} {a : Nat → Nat → Int32} {f i : Int32} (hd : 2 ≤ d) (hI : SInv S) (hM : ModelC h G M v a) (hL : MRel v a S) (hp : post (some (.int (if isF S f ∧ (0 ≤ i ∧ i < nI (fr S f).length) then 1 else 0))) h) : MC G MX7_isEvent d 0 0 [.ref M, .int f, .int i] h N post := by
  have h8 := hI.1
  refine m_isEvent hd hM (fun c => ?_) ?_
  · rw [hL.1, le_pred _ (by omega)] at c
    rcases isF_c S f hI with z | ⟨q, hq, rfl, -⟩
    · exact absurd c z
    · exact vp_in_nI (by omega) (by decide)
  · simp (disch := omega) only [hL.1, le_pred]
    rcases isF_c S f hI with c | ⟨q, hq, rfl, c, hfr⟩
    · rw [if_neg (fun z => c z.1)] at hp ⊢
      exact hp
    · have hs := hL.2.1 q hq
      have h30 := (vld_bd (hI.2.1 q hq).1).1
      rw [hfr] at hp
      simp (disch := omega) only [nI_clamp, hs.1, le_pred]
      exact hp
set_option maxRecDepth 10000 in
theorem M_copy {f : Int32} (hd : 2 ≤ d) (hI : SInv S) (hR : MR h G M S) (hp : ∀ h', MR h' G M (aCopy f S).2 → mKeep h h' M (M + 17) → post (some (.int (aCopy f S).1)) h') : MC G MX7_copy d 0 0 [.ref M, .int f] h N post := by
  have hR0 := hR
  have h8 := hI.1
  obtain ⟨v, a, hM, hL⟩ := hR
  have h0 := hM.1
  have a1 : h (M + 1) = some (.inl (gC G 0, 8, .inl (a 1))) := hM.2 1 (by decide) (by decide)
  refine MC.of (L0 := [some (.ref M), some (.int f)]) gd_X7_copy (Nat.le_of_ble_eq_true rfl) rfl (MW.run gd_X7_copy [] 40 ?_)
  simp (disch := omega) only [↓EVi, ↓EVc, ↓ft_X7_copy, ↓reduceIte, ↓EV_obs, ↓EV_obn, ↓EV_ais, ↓EV_ain, ↓EV_ob h0, ↓EV_ai a1, mdF, mRun, List.mem_cons, List.not_mem_nil, or_false, mtab_eq, Nat.reduceEqDiff, Nat.zero_add]
  refine ⟨by omega, by decide, c_is (by omega) hI hM hL ?_⟩
  unfold aCopy at hp
  rcases isF_c S f hI with c | ⟨q, hq, rfl, c, hfr⟩
  · rw [if_neg c] at hp
    rw [if_neg c]
    simp (disch := omega) only [↓EVi, ↓EVc, ↓ft_X7_copy, ↓reduceIte, ↓EV_obs, ↓EV_obn, ↓EV_ais, ↓EV_ain, ↓EV_ob h0, ↓EV_ai a1, mdF, mRun, List.mem_cons, List.not_mem_nil, or_false, mtab_eq, Nat.reduceEqDiff, Nat.zero_add]
    exact ⟨fun z => absurd trivial z, fun _ => ⟨trivial, Nat.le_refl _, hp h hR0 mKeep_rfl⟩⟩
  · rw [if_pos c, hfr] at hp
    rw [if_pos c]
    simp (disch := omega) only [↓EVi, ↓EVc, ↓ft_X7_copy, ↓reduceIte, ↓EV_obs, ↓EV_obn, ↓EV_ais, ↓EV_ain, ↓EV_ob h0, ↓EV_ai a1, mdF, mRun, List.mem_cons, List.not_mem_nil, or_false, mtab_eq, Nat.reduceEqDiff, Nat.zero_add]
    have e8 : (v 0 = 8) ↔ S.1.length = 8 := by rw [hL.1]; exact nI_eq (b := 8) (by omega) (by omega)
    have hs := hL.2.1 q hq
    have hw := hI.2.1 q hq
    have h30 := (vld_bd hw.1).1
    rw [nI_clamp (n := q) (by omega), hs.1]
    refine ⟨fun _ => ⟨fun c8 => ⟨Nat.le_of_ble_eq_true rfl, vp_in_nI (by omega) (by decide), by omega, by decide, ?_⟩, fun c8 => ⟨trivial, Nat.le_refl _, ?_⟩⟩, fun z => absurd (by decide) z⟩
    · have c8' : ¬ S.1.length = 8 := fun z => c8 (e8.mpr z)
      rw [if_neg c8'] at hp
      have hM1 := ModelC_v (v' := upd v 4 0) hM
      refine c_putOf (es := []) (fs := S.1.getD q []) (by omega) hM1 ⟨pk_us, fun i hi => absurd hi (Nat.not_lt_zero i)⟩ hs (by omega) (Nat.zero_le _) (Nat.le_refl _) h30 (by rw [List.length_nil]; omega) (fun h' v' a' hM' hN hv ha hk => ?_)
      have h0' := hM'.1
      simp (disch := omega) only [↓EVi, ↓EVc, ↓ft_X7_copy, ↓reduceIte, ↓EV_obs, ↓EV_obn, ↓EV_ais, ↓EV_ain, ↓EV_ob h0', mdF, mRun, List.mem_cons, List.not_mem_nil, or_false, mtab_eq, Nat.reduceEqDiff, Nat.zero_add]
      refine ⟨by omega, by decide, ?_⟩
      rw [Nat.sub_zero, List.drop_zero, List.take_length, List.nil_append] at hN
      refine M_added (by omega) hI hM' (MRel_congr hL (fun k hk => by rw [hv k (by omega), pk_un (by omega)]) (fun k hk => ha k (by omega) (by omega))) hN h30 (by omega) (fun h2 hR2 hk2 => ?_)
      simp (disch := omega) only [↓EVi, ↓EVc, ↓ft_X7_copy, ↓reduceIte, ↓EV_obs, ↓EV_obn, ↓EV_ais, ↓EV_ain, mdF, mRun, List.mem_cons, List.not_mem_nil, or_false, mtab_eq, Nat.reduceEqDiff, Nat.zero_add]
      exact ⟨trivial, Nat.le_refl _, hp h2 hR2 (mKeep_trans (mKeep_trans (fun z hz => mset_ne (by omega)) hk) hk2)⟩
    · rw [if_pos (e8.mp (Classical.not_not.mp c8))] at hp
      exact hp h hR0 mKeep_rfl
end MRS
