theorem mft_ok {M : mI} (hM : okM M = true) {pc : Nat} {e : mE} (hf : mft M pc = some e) : okE M (pc, e) = true := by
  unfold mft at hf
  cases hq : (mOps M).find? (fun q => q.1 == pc) with
  | none => rw [hq] at hf; cases hf
  | some q =>
    rw [hq] at hf
    cases hf
    have h1 := List.find?_some hq
    have h2 := List.mem_of_find?_eq_some hq
    simp only [beq_iff_eq] at h1
    rw [← h1]
    exact List.all_eq_true.mp hM q h2
section MWR
variable {G : mG} {M : mI} {Z : mZ}
theorem MW.no99 {pc x : Nat} {fs : List Value} {L : mL} {st : List Value} {h : mH} {al : mAl} (hx0 : h x = some (.inr (99, fs))) : MW G M Z pc L st h al := by
  intro p e s m args below meth c C X H locs ls hN hP hS hL
  obtain ⟨q, hq, -⟩ := (hP x _ hx0).2
  cases hq
set_option maxHeartbeats 4000000 in
theorem MW.step {d : Nat} {ret : Option Value → mH → mAl → Prop} (hR : d ≤ Z.1.frames ∧ 64 * d ≤ Z.1.locals) (hret : mRet G M Z ret) (hM : okM M = true) {pc : Nat} {e : mE} {L : mL} {st : List Value} {h : mH} {al : mAl} (hf : mft M pc = some e) {kk : Nat → mL → List Value → mH → mAl → Prop} (hK : ∀ pc L st h al, kk pc L st h al → MW G M Z pc L st h al) (hw : wpI G d Z.1 ret kk e L st h al) : MW G M Z pc L st h al := by
  have hok := mft_ok hM hf
  unfold okE at hok
  simp only [Bool.and_eq_true, decide_eq_true_eq] at hok
  obtain ⟨⟨hle, hd0⟩, hlen, hr⟩ := hok
  obtain ⟨ins, nx, a, b, c, v, w⟩ := e
  have key : ∀ k : Nat, stdLen ins = k + 1 → decode (mCd M) pc = .ok (ins, k + 1) := fun k hk => by
    rcases hlen with q | q
    · exact absurd (q.symm.trans hk) (by omega)
    · have e0 : nx - pc = k + 1 := by
        have q' : nx = pc + stdLen ins := q
        omega
      rw [← e0]
      exact hd0
  have hN : ∀ k : Nat, stdLen ins = k + 1 → ∀ L st h al, kk nx L st h al → MW G M Z (pc + (k + 1)) L st h al := fun k hk L st h al q => by
    rcases hlen with z | z
    · exact absurd (z.symm.trans hk) (by omega)
    · have e0 : nx = pc + (k + 1) := by
        have z' : nx = pc + stdLen ins := z
        omega
      rw [← e0]
      exact hK _ _ _ _ _ q
  clear hlen hd0 hf hle
  cases ins
  case iconst n => exact MW.go (fun hx hb hL k => lv_iconst hx hb (key 0 rfl) (of_decide_eq_true hr) k) (hN 0 rfl _ _ _ _ hw)
  case bipush n => exact MW.go (fun hx hb hL k => lv_bipush hx hb (key 1 rfl) (of_decide_eq_true hr) k) (hN 1 rfl _ _ _ _ hw)
  case sipush n => exact MW.go (fun hx hb hL k => lv_sipush hx hb (key 2 rfl) (of_decide_eq_true hr) k) (hN 2 rfl _ _ _ _ hw)
  case lconst n => exact MW.go (fun hx hb hL k => lv_lconst hx hb (key 0 rfl) (of_decide_eq_true hr) k) (hN 0 rfl _ _ _ _ hw)
  case ldc2_w n => exact MW.ldc2 hr (key 2 rfl) (hN 2 rfl _ _ _ _ hw)
  case iload_n n =>
    obtain ⟨x, hx0, hk⟩ := w_o_inv hw
    obtain ⟨y, rfl, hk⟩ := w_int_inv hk
    exact MW.go (fun hx hb hL k => lv_iload_n hx hb (key 0 rfl) (of_decide_eq_true hr) (hL.2.2.2 a (.int y) (getD_some.mp hx0)) k) (hN 0 rfl _ _ _ _ hk)
  case iload n =>
    obtain ⟨x, hx0, hk⟩ := w_o_inv hw
    obtain ⟨y, rfl, hk⟩ := w_int_inv hk
    have hna : n = a := of_decide_eq_true hr
    subst hna
    exact MW.go (fun hx hb hL k => lv_iload hx hb (key 1 rfl) (hL.2.2.2 n (.int y) (getD_some.mp hx0)) k) (hN 1 rfl _ _ _ _ hk)
  case aload_n n =>
    obtain ⟨x, hx0, hk⟩ := w_o_inv hw
    obtain ⟨y, rfl, hk⟩ := w_ref_inv hk
    exact MW.go (fun hx hb hL k => lv_aload_n hx hb (key 0 rfl) (of_decide_eq_true hr) (hL.2.2.2 a (.ref y) (getD_some.mp hx0)) k) (hN 0 rfl _ _ _ _ hk)
  case aload n =>
    obtain ⟨x, hx0, hk⟩ := w_o_inv hw
    obtain ⟨y, rfl, hk⟩ := w_ref_inv hk
    have hna : n = a := of_decide_eq_true hr
    subst hna
    exact MW.go (fun hx hb hL k => lv_aload hx hb (key 1 rfl) (hL.2.2.2 n (.ref y) (getD_some.mp hx0)) k) (hN 1 rfl _ _ _ _ hk)
  case lload_n n =>
    obtain ⟨x, hx0, hk⟩ := w_o_inv hw
    obtain ⟨y, rfl, hk⟩ := w_lng_inv hk
    exact MW.go (fun hx hb hL k => lv_lload_n hx hb (key 0 rfl) (of_decide_eq_true hr) (hL.2.2.2 a (.long y) (getD_some.mp hx0)) k) (hN 0 rfl _ _ _ _ hk)
  case lload n =>
    obtain ⟨x, hx0, hk⟩ := w_o_inv hw
    obtain ⟨y, rfl, hk⟩ := w_lng_inv hk
    have hna : n = a := of_decide_eq_true hr
    subst hna
    exact MW.go (fun hx hb hL k => lv_lload hx hb (key 1 rfl) (hL.2.2.2 n (.long y) (getD_some.mp hx0)) k) (hN 1 rfl _ _ _ _ hk)
  case istore_n n =>
    obtain ⟨x, r, rfl, hok, hk⟩ := w_i_inv hw
    obtain ⟨e1, e2⟩ := of_decide_eq_true hr
    exact MW.st1 hok (fun hx hb hh k => lv_istore_n hx hb (key 0 rfl) e1 hh e2 rfl k) (hN 0 rfl _ _ _ _ hk)
  case istore n =>
    obtain ⟨x, r, rfl, hok, hk⟩ := w_i_inv hw
    obtain ⟨rfl, e2⟩ := of_decide_eq_true hr
    exact MW.st1 hok (fun hx hb hh k => lv_istore hx hb (key 1 rfl) hh e2 rfl k) (hN 1 rfl _ _ _ _ hk)
  case astore_n n =>
    obtain ⟨x, r, rfl, hok, hk⟩ := w_r_inv hw
    obtain ⟨e1, e2⟩ := of_decide_eq_true hr
    exact MW.st1 hok (fun hx hb hh k => lv_astore_n hx hb (key 0 rfl) e1 hh e2 rfl k) (hN 0 rfl _ _ _ _ hk)
  case astore n =>
    obtain ⟨x, r, rfl, hok, hk⟩ := w_r_inv hw
    obtain ⟨rfl, e2⟩ := of_decide_eq_true hr
    exact MW.st1 hok (fun hx hb hh k => lv_astore hx hb (key 1 rfl) hh e2 rfl k) (hN 1 rfl _ _ _ _ hk)
  case lstore n =>
    obtain ⟨x, r, rfl, hok, hlt, hk⟩ := w_l_inv hw
    have hna : n = a := of_decide_eq_true hr
    subst hna
    exact MW.st2 hok (fun hx hb hh hl k => lv_lstore hx hb (key 1 rfl) hh (hl ▸ hlt) rfl k) (hN 1 rfl _ _ _ _ hk)
  case iinc n c =>
    obtain ⟨x, hx0, hk⟩ := w_o_inv hw
    obtain ⟨y, rfl, hok, hk⟩ := w_int_inv hk
    obtain ⟨rfl, rfl⟩ := of_decide_eq_true hr
    have hm := ent_mem.mpr (getD_some.mp hx0)
    obtain ⟨j, hj⟩ := List.getElem?_of_mem hm
    have hlt := (List.getElem?_eq_some_iff.mp (getD_some.mp hx0)).1
    intro p e s m args below meth cd C X H locs ls hNN hP hS hL
    exact lv_iinc C.1 C.2.1 (key 2 rfl) (mloc_has hL) hj rfl (hL.2.1 ▸ hlt) rfl (fun ls' hl => hN 2 rfl _ _ _ _ hk p e s m args below meth cd C X H locs ls' hNN hP hS (mloc_st1 hL.2.1 hok hl))
  case dup =>
    cases st with
    | nil => exact (hw : False).elim
    | cons x r => exact MW.go (fun hx hb hL k => lv_dup hx hb (key 0 rfl) hw.1 k) (hN 0 rfl _ _ _ _ hw.2)
  case dup2 =>
    cases st with
    | nil => exact (hw : False).elim
    | cons x r => cases r with
      | nil => exact (hw : False).elim
      | cons y r => exact MW.go (fun hx hb hL k => lv_dup2_11 hx hb (key 0 rfl) hw.1 hw.2.1 k) (hN 0 rfl _ _ _ _ hw.2.2)
  case iadd => obtain ⟨x, y, r, rfl, hk⟩ := w_ii_inv hw; exact MW.go (fun hx hb hL k => lv_iadd hx hb (key 0 rfl) k) (hN 0 rfl _ _ _ _ hk)
  case isub => obtain ⟨x, y, r, rfl, hk⟩ := w_ii_inv hw; exact MW.go (fun hx hb hL k => lv_isub hx hb (key 0 rfl) k) (hN 0 rfl _ _ _ _ hk)
  case imul => obtain ⟨x, y, r, rfl, hk⟩ := w_ii_inv hw; exact MW.go (fun hx hb hL k => lv_imul hx hb (key 0 rfl) k) (hN 0 rfl _ _ _ _ hk)
  case iand => obtain ⟨x, y, r, rfl, hk⟩ := w_ii_inv hw; exact MW.go (fun hx hb hL k => lv_iand hx hb (key 0 rfl) k) (hN 0 rfl _ _ _ _ hk)
  case ior => obtain ⟨x, y, r, rfl, hk⟩ := w_ii_inv hw; exact MW.go (fun hx hb hL k => lv_ior hx hb (key 0 rfl) k) (hN 0 rfl _ _ _ _ hk)
  case ixor => obtain ⟨x, y, r, rfl, hk⟩ := w_ii_inv hw; exact MW.go (fun hx hb hL k => lv_ixor hx hb (key 0 rfl) k) (hN 0 rfl _ _ _ _ hk)
  case ishl => obtain ⟨x, y, r, rfl, hk⟩ := w_ii_inv hw; exact MW.go (fun hx hb hL k => lv_ishl hx hb (key 0 rfl) k) (hN 0 rfl _ _ _ _ hk)
  case ishr => obtain ⟨x, y, r, rfl, hk⟩ := w_ii_inv hw; exact MW.go (fun hx hb hL k => lv_ishr hx hb (key 0 rfl) k) (hN 0 rfl _ _ _ _ hk)
  case idiv => obtain ⟨x, y, r, rfl, hne, hk⟩ := w_ii_inv hw; exact MW.go (fun hx hb hL k => lv_idiv hx hb (key 0 rfl) hne k) (hN 0 rfl _ _ _ _ hk)
  case irem => obtain ⟨x, y, r, rfl, hne, hk⟩ := w_ii_inv hw; exact MW.go (fun hx hb hL k => lv_irem hx hb (key 0 rfl) hne k) (hN 0 rfl _ _ _ _ hk)
  case iushr => obtain ⟨x, y, r, rfl, hk⟩ := w_ii_inv hw; exact MW.go (fun hx hb hL k => lv_iushr hx hb (key 0 rfl) rfl k) (hN 0 rfl _ _ _ _ hk)
  case ineg => obtain ⟨x, r, rfl, hk⟩ := w_i_inv hw; exact MW.go (fun hx hb hL k => lv_ineg hx hb (key 0 rfl) k) (hN 0 rfl _ _ _ _ hk)
  case i2l => obtain ⟨x, r, rfl, hk⟩ := w_i_inv hw; exact MW.go (fun hx hb hL k => lv_i2l hx hb (key 0 rfl) rfl k) (hN 0 rfl _ _ _ _ hk)
  case i2b => obtain ⟨x, r, rfl, hk⟩ := w_i_inv hw; exact MW.go (fun hx hb hL k => lv_i2b hx hb (key 0 rfl) rfl k) (hN 0 rfl _ _ _ _ hk)
  case i2s => obtain ⟨x, r, rfl, hk⟩ := w_i_inv hw; exact MW.go (fun hx hb hL k => lv_i2s hx hb (key 0 rfl) rfl k) (hN 0 rfl _ _ _ _ hk)
  case i2c => obtain ⟨x, r, rfl, hk⟩ := w_i_inv hw; exact MW.go (fun hx hb hL k => lv_i2c hx hb (key 0 rfl) rfl k) (hN 0 rfl _ _ _ _ hk)
  case l2i => obtain ⟨x, r, rfl, hk⟩ := w_l_inv hw; exact MW.go (fun hx hb hL k => lv_l2i hx hb (key 0 rfl) rfl k) (hN 0 rfl _ _ _ _ hk)
  case ladd => obtain ⟨x, y, r, rfl, hk⟩ := w_ll_inv hw; exact MW.go (fun hx hb hL k => lv_ladd hx hb (key 0 rfl) k) (hN 0 rfl _ _ _ _ hk)
  case land => obtain ⟨x, y, r, rfl, hk⟩ := w_ll_inv hw; exact MW.go (fun hx hb hL k => lv_land hx hb (key 0 rfl) k) (hN 0 rfl _ _ _ _ hk)
  case lor => obtain ⟨x, y, r, rfl, hk⟩ := w_ll_inv hw; exact MW.go (fun hx hb hL k => lv_lor hx hb (key 0 rfl) k) (hN 0 rfl _ _ _ _ hk)
  case lcmp => obtain ⟨x, y, r, rfl, hk⟩ := w_ll_inv hw; exact MW.go (fun hx hb hL k => W.lcmp hx hb (key 0 rfl) k) (hN 0 rfl _ _ _ _ hk)
  case lshl => obtain ⟨x, y, r, rfl, hk⟩ := w_li_inv hw; exact MW.go (fun hx hb hL k => lv_lshl hx hb (key 0 rfl) rfl k) (hN 0 rfl _ _ _ _ hk)
  case lshr => obtain ⟨x, y, r, rfl, hk⟩ := w_li_inv hw; exact MW.go (fun hx hb hL k => lv_lshr hx hb (key 0 rfl) rfl k) (hN 0 rfl _ _ _ _ hk)
  case goto off => exact MW.go (fun hx hb hL k => lv_goto hx hb (key 2 rfl) (of_decide_eq_true hr) k) (hK _ _ _ _ _ hw)
  case ifCond cd off =>
    obtain ⟨x, r, rfl, hk⟩ := w_i_inv hw
    have ht : (pc : Int) + off = (a : Int) := of_decide_eq_true hr
    have hk : (mcmp cd x 0 → MW G M Z a L r h al) ∧ (¬ mcmp cd x 0 → MW G M Z (pc + 3) L r h al) := ⟨fun q => hK _ _ _ _ _ (hk.1 q), fun q => hN 2 rfl _ _ _ _ (hk.2 q)⟩
    cases cd
    case eq => exact MW.br (fun hx hb k1 k2 => lv_if_eq hx hb (key 2 rfl) ht k1 k2) hk
    case ne => exact MW.br (P := ¬ x = 0) (fun hx hb k1 k2 => lv_if_ne hx hb (key 2 rfl) ht k1 (fun q => k2 (fun z => z q))) hk
    case lt => exact MW.br (fun hx hb k1 k2 => lv_if_lt hx hb (key 2 rfl) ht k1 k2) hk
    case ge => exact MW.br (fun hx hb k1 k2 => lv_if_ge hx hb (key 2 rfl) ht k1 k2) hk
    case gt => exact MW.br (fun hx hb k1 k2 => lv_if_gt hx hb (key 2 rfl) ht k1 k2) hk
    case le => exact MW.br (fun hx hb k1 k2 => lv_if_le hx hb (key 2 rfl) ht k1 k2) hk
  case if_icmp cd off =>
    obtain ⟨x, y, r, rfl, hk⟩ := w_ii_inv hw
    have ht : (pc : Int) + off = (a : Int) := of_decide_eq_true hr
    have hk : (mcmp cd x y → MW G M Z a L r h al) ∧ (¬ mcmp cd x y → MW G M Z (pc + 3) L r h al) := ⟨fun q => hK _ _ _ _ _ (hk.1 q), fun q => hN 2 rfl _ _ _ _ (hk.2 q)⟩
    cases cd
    case eq => exact MW.br (fun hx hb k1 k2 => lv_icmp_eq hx hb (key 2 rfl) ht k1 k2) hk
    case ne => exact MW.br (P := ¬ x = y) (fun hx hb k1 k2 => lv_icmp_ne hx hb (key 2 rfl) ht k1 (fun q => k2 (fun z => z q))) hk
    case lt => exact MW.br (fun hx hb k1 k2 => lv_icmp_lt hx hb (key 2 rfl) ht k1 k2) hk
    case ge => exact MW.br (fun hx hb k1 k2 => lv_icmp_ge hx hb (key 2 rfl) ht k1 k2) hk
    case gt => exact MW.br (fun hx hb k1 k2 => lv_icmp_gt hx hb (key 2 rfl) ht k1 k2) hk
    case le => exact MW.br (fun hx hb k1 k2 => lv_icmp_le hx hb (key 2 rfl) ht k1 k2) hk
  case getfield idx =>
    obtain ⟨x, r, rfl, hk⟩ := w_r_inv hw
    obtain ⟨fs, hx0, hk⟩ := w_ob_inv hk
    obtain ⟨v, hv, hk⟩ := w_o_inv hk
    by_cases c99 : a = 99
    · subst c99
      exact MW.no99 hx0
    · unfold okR at hr
      dsimp only at hr
      have e99 : (a == 99) = false := by simp [c99]
      rw [e99, Bool.false_or] at hr
      exact MW.getf hx0 hv hr (key 2 rfl) (hN 2 rfl _ _ _ _ hk)
  case putfield idx =>
    obtain ⟨x, v, r, rfl, hk⟩ := w_rv_inv hw
    obtain ⟨fs, hx0, hl, hk⟩ := w_ob_inv hk
    have hr2 := (Bool.and_eq_true _ _).mp hr
    have hr3 := (Bool.and_eq_true _ _).mp hr2.2
    have hf : mfit (tyCl a b) v ∧ kk nx L r (mset h x (.inr (a, fs.set b v))) al := by
      have h3 := hr3.2
      unfold w_fit at hk
      generalize tyCl a b = ty at h3 ⊢
      split at hk
      · split at h3 <;> first | exact ⟨trivial, hk⟩ | cases h3 | (rename_i q _; cases q) | skip
        all_goals first | exact ⟨trivial, hk⟩ | (simp at *)
      · split at h3 <;> first | exact ⟨hk.1, hk.2⟩ | cases h3 | (rename_i q _; cases q) | skip
        all_goals first | exact ⟨hk.1, hk.2⟩ | (simp at *)
      · split at h3 <;> first | exact ⟨trivial, hk⟩ | cases h3 | (rename_i q _; cases q) | skip
        all_goals first | exact ⟨trivial, hk⟩ | (simp at *)
      · exact hk.elim
    exact MW.putf hx0 hl hf.1 hr2.1 hr3.1 (key 2 rfl) (hN 2 rfl _ _ _ _ hf.2)
  case iaload =>
    obtain ⟨x, i, r, rfl, hk⟩ := w_ri_inv hw
    obtain ⟨n, f, hx0, hi, hk⟩ := w_ai_inv hk
    exact MW.iald hx0 hi (key 0 rfl) (hN 0 rfl _ _ _ _ hk)
  case baload =>
    obtain ⟨x, i, r, rfl, hk⟩ := w_ri_inv hw
    obtain ⟨n, f, hx0, hi, hk⟩ := w_ai_inv hk
    have ha : a = 1 ∨ a = 2 := by simpa [okR] using hr
    exact MW.bald ha hx0 hi (key 0 rfl) (hN 0 rfl _ _ _ _ hk)
  case aaload =>
    obtain ⟨x, i, r, rfl, hk⟩ := w_ri_inv hw
    obtain ⟨n, f, hx0, hi, hk1⟩ := w_ar_inv hk
    obtain ⟨y, hy, hk2⟩ := w_o_inv hk1
    clear hk hk1 hw
    have ha : a = 3 ∨ a = 4 ∨ a = 5 := by simpa [okR] using hr
    rcases ha with rfl | rfl | rfl
    · exact MW.aload (t := 3) hx0 rfl rfl hi hy (key 0 rfl) (hN 0 rfl _ _ _ _ hk2)
    · exact MW.aload (t := 4) hx0 rfl rfl hi hy (key 0 rfl) (hN 0 rfl _ _ _ _ hk2)
    · exact MW.aload (t := 5) hx0 rfl rfl hi hy (key 0 rfl) (hN 0 rfl _ _ _ _ hk2)
  case iastore =>
    obtain ⟨x, i, v, r, rfl, hk⟩ := w_rii_inv hw
    obtain ⟨n, f, hx0, hi, hk⟩ := w_ai_inv hk
    exact MW.iast hx0 hi (key 0 rfl) (hN 0 rfl _ _ _ _ hk)
  case bastore =>
    obtain ⟨x, i, v, r, rfl, hk⟩ := w_rii_inv hw
    obtain ⟨n, f, hx0, hi, hk⟩ := w_ai_inv hk
    have ha : a = 1 ∨ a = 2 := by simpa [okR] using hr
    exact MW.bast ha hx0 hi (key 0 rfl) (hN 0 rfl _ _ _ _ hk)
  case invokevirtual idx =>
    unfold wpI at hw
    dsimp only at hw
    unfold okR at hr
    dsimp only at hr
    by_cases c9 : a = 999
    · rw [if_pos c9] at hw
      exact hw.elim
    rw [if_neg c9] at hw
    have e9 : (a == 999) = false := by simp [c9]
    rw [e9, Bool.false_or] at hr
    have hr0 := (Bool.and_eq_true _ _).mp hr
    have hr2 := (Bool.and_eq_true _ _).mp hr0.1
    have hcl : mCls (mtab a) = c := of_decide_eq_true hr0.2
    obtain ⟨q, hq, hk⟩ := w_o_inv hw
    obtain ⟨As, st'⟩ := q
    obtain ⟨x, r, hst', hk⟩ := w_r_inv hk
    obtain ⟨fs, hx0, h1, hst, hk⟩ := w_ob_inv hk
    obtain ⟨bb, e1, e2, e3⟩ := mpop_eq b [] st As st' hq
    have e4 : st = As.reverse ++ .ref x :: r := by
      rw [e2, e1]
      simp only [List.append_nil, List.reverse_reverse]
      exact congrArg _ hst'
    rw [e4]
    exact MW.callV hR h1 hst (by rw [hcl]; exact hx0) (mlink hr2.1) (mword hr2.2) (by rw [e1]; simpa using e3) (key 2 rfl) hk (fun _ _ => hN 2 rfl _ _ _ _)
  case invokestatic idx =>
    unfold wpI at hw
    dsimp only at hw
    unfold okR at hr
    dsimp only at hr
    by_cases c0 : a = 1000
    · subst c0
      obtain ⟨x, sp, y, dp, n, r, rfl, hk⟩ := w_cp_inv (by rw [if_pos rfl] at hw; exact hw)
      obtain ⟨n0, f, hx0, hk⟩ := w_ai_inv hk
      obtain ⟨n1, g, hy0, h1, hst, a1, a2, a3, a4, a5, hk⟩ := w_ai_inv hk
      exact MW.copy hR h1 hst hx0 hy0 a1 a2 a3 a4 a5 (slink (a := 1000) (by rw [if_pos (by decide)] at hr; exact hr)) (key 2 rfl) (hN 2 rfl _ _ _ _ hk)
    · rw [if_neg c0] at hw
      by_cases c1 : a = 1010
      · subst c1
        obtain ⟨x, y, r, rfl, h1, hst, hk⟩ := w_ii_inv (by rw [if_pos rfl] at hw; exact hw)
        exact MW.mth hR h1 hst (key 2 rfl) (Or.inl ⟨x, y, slink (a := 1010) (by rw [if_pos (by decide)] at hr; exact hr), rfl, rfl⟩) (hN 2 rfl _ _ _ _ hk)
      · rw [if_neg c1] at hw
        by_cases c2 : a = 1011
        · subst c2
          obtain ⟨x, y, r, rfl, h1, hst, hk⟩ := w_ii_inv (by rw [if_pos rfl] at hw; exact hw)
          exact MW.mth hR h1 hst (key 2 rfl) (Or.inr (Or.inl ⟨x, y, slink (a := 1011) (by rw [if_pos (by decide)] at hr; exact hr), rfl, rfl⟩)) (hN 2 rfl _ _ _ _ hk)
        · rw [if_neg c2] at hw
          by_cases c3 : a = 1012
          · subst c3
            obtain ⟨x, r, rfl, h1, hst, hk⟩ := w_i_inv (by rw [if_pos rfl] at hw; exact hw)
            exact MW.mth hR h1 hst (key 2 rfl) (Or.inr (Or.inr ⟨x, slink (a := 1012) (by rw [if_pos (by decide)] at hr; exact hr), rfl, rfl⟩)) (hN 2 rfl _ _ _ _ hk)
          · rw [if_neg c3] at hw
            by_cases c4 : a = 1013
            · rw [if_pos c4] at hw; exact hw.elim
            · rw [if_neg c4] at hw
              obtain ⟨q, hq, h1, hst, hk⟩ := w_o_inv hw
              obtain ⟨As, r⟩ := q
              obtain ⟨bb, e1, e2, e3⟩ := mpop_eq b [] st As r hq
              rw [if_neg (by omega)] at hr
              have hr2 := (Bool.and_eq_true _ _).mp hr
              have e4 : st = As.reverse ++ r := by
                rw [e2, e1]
                simp only [List.append_nil, List.reverse_reverse]
              rw [e4]
              exact MW.callS hR h1 hst (mlink hr2.1) (mword hr2.2) (by rw [e1]; simpa using e3) (key 2 rfl) hk (fun _ _ => hN 2 rfl _ _ _ _)
  case invokespecial idx =>
    unfold wpI at hw
    dsimp only at hw
    unfold okR at hr
    dsimp only at hr
    by_cases c0 : a = 1001
    · subst c0
      obtain ⟨x, r, rfl, h1, hst, hk⟩ := w_r_inv (by rw [if_pos rfl] at hw; exact hw)
      exact MW.objI hR h1 hst (slink (a := 1001) (by rw [if_pos rfl] at hr; exact hr)) (key 2 rfl) (hN 2 rfl _ _ _ _ hk)
    · rw [if_neg c0] at hw
      obtain ⟨q, hq, hk⟩ := w_o_inv hw
      obtain ⟨As, st'⟩ := q
      obtain ⟨x, r, hst', h1, hst, f1, f2, hk⟩ := w_r_inv hk
      obtain ⟨bb, e1, e2, e3⟩ := mpop_eq b [] st As st' hq
      rw [if_neg c0] at hr
      have hr2 := (Bool.and_eq_true _ _).mp hr
      have e4 : st = As.reverse ++ .ref x :: r := by
        rw [e2, e1]
        simp only [List.append_nil, List.reverse_reverse]
        exact congrArg _ hst'
      rw [e4]
      exact MW.callI hR h1 hst ⟨f1, f2⟩ (mlinkN hr2.1) (mword hr2.2) (by rw [e1]; simpa using e3) (key 2 rfl) hk (fun _ _ => hN 2 rfl _ _ _ _)
  case ireturn =>
    unfold wpI at hw
    dsimp only at hw
    unfold okR at hr
    dsimp only at hr
    unfold w_ret at hw
    split at hw
    · refine (hret pc L h al).1 _ (key 0 rfl) ?_ hw
      rw [show ((0 : Nat) == 9) = false from rfl, Bool.false_or] at hr
      split at hr
      next e => rw [e]; trivial
      next q _ => cases q
      next => cases hr
    · refine (hret pc L h al).1 _ (key 0 rfl) ?_ hw.2
      rw [show ((1 : Nat) == 9) = false from rfl, Bool.false_or] at hr
      split at hr
      next q _ => cases q
      next e => rw [e]; exact hw.1
      next => cases hr
    · exact hw.elim
  case areturn =>
    unfold wpI at hw
    dsimp only at hw
    unfold okR at hr
    dsimp only at hr
    unfold w_rtr at hw
    split at hw
    · refine (hret pc L h al).2.1 _ (key 0 rfl) ?_ hw
      split at hr
      next e => exact ⟨_, e⟩
      next => cases hr
    · exact hw.elim
  case return_ =>
    unfold wpI at hw
    dsimp only at hw
    unfold w_rtv at hw
    split at hw
    · exact (hret pc L h al).2.2 (key 0 rfl) (of_decide_eq_true hr) hw
    · exact hw.elim
  all_goals exact (hw : False).elim
end MWR

def mEnt : List Value → mL
  | [] => []
  | v :: vs => if v.category = 2 then some v :: none :: mEnt vs else some v :: mEnt vs
theorem mEnt_len : ∀ vs : List Value, (mEnt vs).length = (lg_sl vs).length
  | [] => rfl
  | v :: vs => by
    unfold mEnt lg_sl
    rw [List.flatMap_cons]
    have ih := mEnt_len vs
    unfold lg_sl at ih
    by_cases c : v.category = 2
    · simp [c, ih]
    · simp [c, ih]
theorem mEnt_mem : ∀ (vs : List Value) (j i : Nat) (v : Value), (mEnt vs)[i]? = some (some v) → (j + i, v) ∈ lv_args j vs
  | [], _, _, _, h => by cases h
  | w :: vs, j, i, v, h => by
    unfold mEnt at h
    unfold lv_args
    by_cases c : w.category = 2
    · rw [if_pos c] at h ⊢
      match i, h with
      | 0, h => cases h; exact List.mem_cons_self
      | 1, h => cases h
      | i + 2, h =>
        have := mEnt_mem vs (j + 2) i v h
        rw [show j + (i + 2) = j + 2 + i by omega]
        exact List.mem_cons_of_mem _ this
    · rw [if_neg c] at h ⊢
      match i, h with
      | 0, h => cases h; exact List.mem_cons_self
      | i + 1, h =>
        have := mEnt_mem vs (j + 1) i v h
        rw [show j + (i + 1) = j + 1 + i by omega]
        exact List.mem_cons_of_mem _ this
def mGood (M : mI) : Prop := okM M = true ∧ plainFor (mNm M) = true ∧ mOwn (mCls M) = (mNm M).cls
theorem MC.of {G : mG} {M : mI} {d mc ms : Nat} {args : List Value} {h : mH} {N : Nat} {post : Option Value → mH → Prop} {L0 : mL} (hg : mGood M) (hle : (mEnt args).length ≤ mMx M) (hL0 : mEnt args ++ List.replicate (mMx M - (mEnt args).length) none = L0)
    (hW : MW G M (mz G d mc ms post) 0 L0 [] h (N, 0, 0)) : MC G M d mc ms args h N post := by
  refine va_MetF (cc := mCd M) (maxL := mMx M) (ret := mRt M) hg.2.1 rfl ?_
  intro p e s m args' below meth c s₁ B hml hv
  obtain ⟨rfl, hsz, hP, hK, hgS, hB⟩ := hv
  have hts := atoms_spec (ws := mWd M) B.pre
  have hown : s.vm.findClass (mOwn (mCls M)) = some m.cls := by rw [hg.2.2]; exact findClass_of_methodNamed B.named
  have hnm : meth.name = (mNm M).name := (name_of_methodNamed B.named B.method).1
  have hlen : (lg_sl args).length ≤ mMx M := by rw [← mEnt_len]; exact hle
  have hl := lv_entry args (n := mMx M) hlen
  rw [lg_entry_eq]
  generalize (lg_sl args ++ List.replicate (mMx M - (lg_sl args).length) Slot.unset).toArray = ls at hl ⊢
  refine hW p e s m args.toArray below meth c ⟨B.exec, B.bytes, B.returns, hml, hown, fun w hw => hts w (List.mem_cons_of_mem _ hw), B.notSynchronized, hK, hgS, by omega, fun q => hnm.trans q⟩ trivial s.heap [] ls ⟨by show N = s.heap.size + 0; omega, by show N ≤ _; omega, Nat.zero_le _, Nat.zero_le _⟩ hP va_S.rf ?_
  refine ⟨hl.1, ?_, hl.2.1, fun i v hi => ?_⟩
  · rw [← hL0]
    simp
    omega
  · rw [← hL0] at hi
    by_cases c : i < (mEnt args).length
    · rw [List.getElem?_append_left c] at hi
      have := hl.2.2 _ (mEnt_mem args 0 i v hi)
      simpa using this
    · rw [List.getElem?_append_right (by omega)] at hi
      have := List.eq_of_mem_replicate (List.mem_of_getElem? hi)
      cases this
/-- many steps: up to the places told -/
def wpN (G : mG) (M : mI) (Z : mZ) (d : Nat) (ret : Option Value → mH → mAl → Prop) (stops : List Nat) : Nat → Nat → mL → List Value → mH → mAl → Prop
  | 0, pc, L, st, h, al => MW G M Z pc L st h al
  | n + 1, pc, L, st, h, al => if pc ∈ stops then MW G M Z pc L st h al else w_o (mft M pc) fun e => wpI G d Z.1 ret (wpN G M Z d ret stops n) e L st h al
theorem wpN_ok {G : mG} {M : mI} {Z : mZ} {d : Nat} {ret : Option Value → mH → mAl → Prop} (hR : d ≤ Z.1.frames ∧ 64 * d ≤ Z.1.locals) (hret : mRet G M Z ret) (hM : okM M = true) {stops : List Nat} : ∀ (n pc : Nat) (L : mL) (st : List Value) (h : mH) (al : mAl), wpN G M Z d ret stops n pc L st h al → MW G M Z pc L st h al
  | 0, _, _, _, _, _, hw => hw
  | n + 1, pc, L, st, h, al, hw => by
    unfold wpN at hw
    split at hw
    · exact hw
    · obtain ⟨e, he, hw⟩ := w_o_inv hw
      exact MW.step hR hret hM he (fun pc L st h al => wpN_ok hR hret hM n pc L st h al) hw
/-- the end of a method that makes mc cells of ms slots -/
def mEnd (mc ms : Nat) (post : Option Value → mH → Prop) : Option Value → mH → mAl → Prop := fun r h al => al.2.1 = mc ∧ al.2.2 ≤ ms ∧ post r h
/-- a method's body from a place on, n steps at most, up to the places told -/
abbrev mRun (G : mG) (M : mI) (d mc ms : Nat) (post : Option Value → mH → Prop) (stops : List Nat) (n pc : Nat) (L : mL) (st : List Value) (h : mH) (al : mAl) : Prop := wpN G M (mz G d mc ms post) d (mEnd mc ms post) stops n pc L st h al
theorem MW.run {G : mG} {M : mI} {d mc ms : Nat} {post : Option Value → mH → Prop} (hg : mGood M) (stops : List Nat) (n : Nat) {pc : Nat} {L : mL} {st : List Value} {h : mH} {al : mAl} (hw : mRun G M d mc ms post stops n pc L st h al) : MW G M (mz G d mc ms post) pc L st h al :=
  wpN_ok ⟨Nat.le_refl _, Nat.le_refl _⟩ mz_ret hg.1 n pc L st h al hw
