theorem mft_ok {M : mI} (hM : okM M = true) {pc : Nat} {e : mE} (hf : mft M pc = some e) : okE M (pc, e) = true := by
  unfold mft at hf
  cases hq : (mOps M).find? (fun q => q.1 == pc) with
  | none => rw [hq] at hf; cases hf
  | some q =>
    rw [hq] at hf
    cases hf
    have h1 := List.find?_some hq
    have h2 := List.mem_of_find?_eq_some hq
    simp only [beq_iff_eq] at h1
    rw [← h1]
    exact List.all_eq_true.mp hM q h2
section MWR
variable {G : mG} {M : mI} {Z : mZ}
set_option maxHeartbeats 4000000 in
theorem MW.step {d : Nat} {ret : Option Value → mH → mAl → Prop} (hR : d ≤ Z.1.frames ∧ 64 * d ≤ Z.1.locals) (hret : mRet G M Z ret) (hM : okM M = true) {pc : Nat} {e : mE} {L : mL} {st : List Value} {h : mH} {al : mAl} (hf : mft M pc = some e) (hw : wpI G M d Z.1 ret (MW G M Z) e pc L st h al) : MW G M Z pc L st h al := by
  have hok := mft_ok hM hf
  unfold okE at hok
  simp only [Bool.and_eq_true, decide_eq_true_eq] at hok
  obtain ⟨hd0, hlen, hr⟩ := hok
  obtain ⟨ins, len, a, b, v, w⟩ := e
  have key : ∀ k : Nat, stdLen ins = k + 1 → decode (mCd M) pc = .ok (ins, k + 1) := fun k hk => by
    rcases hlen with q | q
    · exact absurd (q.symm.trans hk) (by omega)
    · rw [← hk, ← q]; exact hd0
  clear hlen hd0 hf
  cases ins
  case iconst n => exact MW.go (fun hx hb hL k => lv_iconst hx hb (key 0 rfl) (of_decide_eq_true hr) k) hw
  case bipush n => exact MW.go (fun hx hb hL k => lv_bipush hx hb (key 1 rfl) (of_decide_eq_true hr) k) hw
  case sipush n => exact MW.go (fun hx hb hL k => lv_sipush hx hb (key 2 rfl) (of_decide_eq_true hr) k) hw
  case lconst n => exact MW.go (fun hx hb hL k => lv_lconst hx hb (key 0 rfl) (of_decide_eq_true hr) k) hw
  case ldc2_w n => exact MW.ldc2 hr (key 2 rfl) hw
  case iload_n n =>
    obtain ⟨x, hx0, hk⟩ := w_o_inv hw
    cases x with
    | int x => exact MW.go (fun hx hb hL k => lv_iload_n hx hb (key 0 rfl) (of_decide_eq_true hr) (hL.2.2.2 a (.int x) (getD_some.mp hx0)) k) hk
    | _ => exact hk.elim
  case iload n =>
    obtain ⟨x, hx0, hk⟩ := w_o_inv hw
    have hna : n = a := of_decide_eq_true hr
    subst hna
    cases x with
    | int x => exact MW.go (fun hx hb hL k => lv_iload hx hb (key 1 rfl) (hL.2.2.2 n (.int x) (getD_some.mp hx0)) k) hk
    | _ => exact hk.elim
  case aload_n n =>
    obtain ⟨x, hx0, hk⟩ := w_o_inv hw
    cases x with
    | ref x => exact MW.go (fun hx hb hL k => lv_aload_n hx hb (key 0 rfl) (of_decide_eq_true hr) (hL.2.2.2 a (.ref x) (getD_some.mp hx0)) k) hk
    | _ => exact hk.elim
  case aload n =>
    obtain ⟨x, hx0, hk⟩ := w_o_inv hw
    have hna : n = a := of_decide_eq_true hr
    subst hna
    cases x with
    | ref x => exact MW.go (fun hx hb hL k => lv_aload hx hb (key 1 rfl) (hL.2.2.2 n (.ref x) (getD_some.mp hx0)) k) hk
    | _ => exact hk.elim
  case lload_n n =>
    obtain ⟨x, hx0, hk⟩ := w_o_inv hw
    cases x with
    | long x => exact MW.go (fun hx hb hL k => lv_lload_n hx hb (key 0 rfl) (of_decide_eq_true hr) (hL.2.2.2 a (.long x) (getD_some.mp hx0)) k) hk
    | _ => exact hk.elim
  case lload n =>
    obtain ⟨x, hx0, hk⟩ := w_o_inv hw
    have hna : n = a := of_decide_eq_true hr
    subst hna
    cases x with
    | long x => exact MW.go (fun hx hb hL k => lv_lload hx hb (key 1 rfl) (hL.2.2.2 n (.long x) (getD_some.mp hx0)) k) hk
    | _ => exact hk.elim
  case istore_n n =>
    obtain ⟨x, r, rfl, hok, hk⟩ := w_i_inv hw
    obtain ⟨e1, e2⟩ := of_decide_eq_true hr
    exact MW.st1 hok (fun hx hb hh k => lv_istore_n hx hb (key 0 rfl) e1 hh e2 rfl k) hk
  case istore n =>
    obtain ⟨x, r, rfl, hok, hk⟩ := w_i_inv hw
    obtain ⟨rfl, e2⟩ := of_decide_eq_true hr
    exact MW.st1 hok (fun hx hb hh k => lv_istore hx hb (key 1 rfl) hh e2 rfl k) hk
  case astore_n n =>
    obtain ⟨x, r, rfl, hok, hk⟩ := w_r_inv hw
    obtain ⟨e1, e2⟩ := of_decide_eq_true hr
    exact MW.st1 hok (fun hx hb hh k => lv_astore_n hx hb (key 0 rfl) e1 hh e2 rfl k) hk
  case astore n =>
    obtain ⟨x, r, rfl, hok, hk⟩ := w_r_inv hw
    obtain ⟨rfl, e2⟩ := of_decide_eq_true hr
    exact MW.st1 hok (fun hx hb hh k => lv_astore hx hb (key 1 rfl) hh e2 rfl k) hk
  case lstore n =>
    obtain ⟨x, r, rfl, hok, hlt, hk⟩ := w_l_inv hw
    have hna : n = a := of_decide_eq_true hr
    subst hna
    exact MW.st2 hok (fun hx hb hh hl k => lv_lstore hx hb (key 1 rfl) hh (hl ▸ hlt) rfl k) hk
  case iinc n c =>
    obtain ⟨x, hx0, hk⟩ := w_o_inv hw
    obtain ⟨rfl, rfl⟩ := of_decide_eq_true hr
    cases x with
    | int x =>
      have hm := ent_mem.mpr (getD_some.mp hx0)
      obtain ⟨j, hj⟩ := List.getElem?_of_mem hm
      have hlt := (List.getElem?_eq_some_iff.mp (getD_some.mp hx0)).1
      intro p e s m args below meth cd C X H locs ls hN hP hS hL
      exact lv_iinc C.1 C.2.1 (key 2 rfl) (mloc_has hL) hj rfl (hL.2.1 ▸ hlt) rfl (fun ls' hl => hk.2 p e s m args below meth cd C X H locs ls' hN hP hS (mloc_st1 hL.2.1 hk.1 hl))
    | _ => exact hk.elim
  case dup =>
    cases st with
    | nil => exact (hw : False).elim
    | cons x r => exact MW.go (fun hx hb hL k => lv_dup hx hb (key 0 rfl) hw.1 k) hw.2
  case dup2 =>
    cases st with
    | nil => exact (hw : False).elim
    | cons x r => cases r with
      | nil => exact (hw : False).elim
      | cons y r => exact MW.go (fun hx hb hL k => lv_dup2_11 hx hb (key 0 rfl) hw.1 hw.2.1 k) hw.2.2
  case iadd => obtain ⟨x, y, r, rfl, hk⟩ := w_ii_inv hw; exact MW.go (fun hx hb hL k => lv_iadd hx hb (key 0 rfl) k) hk
  case isub => obtain ⟨x, y, r, rfl, hk⟩ := w_ii_inv hw; exact MW.go (fun hx hb hL k => lv_isub hx hb (key 0 rfl) k) hk
  case imul => obtain ⟨x, y, r, rfl, hk⟩ := w_ii_inv hw; exact MW.go (fun hx hb hL k => lv_imul hx hb (key 0 rfl) k) hk
  case idiv => obtain ⟨x, y, r, rfl, hne, hk⟩ := w_ii_inv hw; exact MW.go (fun hx hb hL k => lv_idiv hx hb (key 0 rfl) hne k) hk
  case irem => obtain ⟨x, y, r, rfl, hne, hk⟩ := w_ii_inv hw; exact MW.go (fun hx hb hL k => lv_irem hx hb (key 0 rfl) hne k) hk
  case iand => obtain ⟨x, y, r, rfl, hk⟩ := w_ii_inv hw; exact MW.go (fun hx hb hL k => lv_iand hx hb (key 0 rfl) k) hk
  case ior => obtain ⟨x, y, r, rfl, hk⟩ := w_ii_inv hw; exact MW.go (fun hx hb hL k => lv_ior hx hb (key 0 rfl) k) hk
  case ixor => obtain ⟨x, y, r, rfl, hk⟩ := w_ii_inv hw; exact MW.go (fun hx hb hL k => lv_ixor hx hb (key 0 rfl) k) hk
  case ishl => obtain ⟨x, y, r, rfl, hk⟩ := w_ii_inv hw; exact MW.go (fun hx hb hL k => lv_ishl hx hb (key 0 rfl) k) hk
  case ishr => obtain ⟨x, y, r, rfl, hk⟩ := w_ii_inv hw; exact MW.go (fun hx hb hL k => lv_ishr hx hb (key 0 rfl) k) hk
  case iushr => obtain ⟨x, y, r, rfl, hk⟩ := w_ii_inv hw; exact MW.go (fun hx hb hL k => lv_iushr hx hb (key 0 rfl) rfl k) hk
  case ineg => obtain ⟨x, r, rfl, hk⟩ := w_i_inv hw; exact MW.go (fun hx hb hL k => lv_ineg hx hb (key 0 rfl) k) hk
  case i2l => obtain ⟨x, r, rfl, hk⟩ := w_i_inv hw; exact MW.go (fun hx hb hL k => lv_i2l hx hb (key 0 rfl) rfl k) hk
  case i2b => obtain ⟨x, r, rfl, hk⟩ := w_i_inv hw; exact MW.go (fun hx hb hL k => lv_i2b hx hb (key 0 rfl) rfl k) hk
  case i2s => obtain ⟨x, r, rfl, hk⟩ := w_i_inv hw; exact MW.go (fun hx hb hL k => lv_i2s hx hb (key 0 rfl) rfl k) hk
  case i2c => obtain ⟨x, r, rfl, hk⟩ := w_i_inv hw; exact MW.go (fun hx hb hL k => lv_i2c hx hb (key 0 rfl) rfl k) hk
  case l2i => obtain ⟨x, r, rfl, hk⟩ := w_l_inv hw; exact MW.go (fun hx hb hL k => lv_l2i hx hb (key 0 rfl) rfl k) hk
  case ladd => obtain ⟨x, y, r, rfl, hk⟩ := w_ll_inv hw; exact MW.go (fun hx hb hL k => lv_ladd hx hb (key 0 rfl) k) hk
  case land => obtain ⟨x, y, r, rfl, hk⟩ := w_ll_inv hw; exact MW.go (fun hx hb hL k => lv_land hx hb (key 0 rfl) k) hk
  case lor => obtain ⟨x, y, r, rfl, hk⟩ := w_ll_inv hw; exact MW.go (fun hx hb hL k => lv_lor hx hb (key 0 rfl) k) hk
  case lcmp => obtain ⟨x, y, r, rfl, hk⟩ := w_ll_inv hw; exact MW.go (fun hx hb hL k => W.lcmp hx hb (key 0 rfl) k) hk
  case lshl => obtain ⟨x, y, r, rfl, hk⟩ := w_li_inv hw; exact MW.go (fun hx hb hL k => lv_lshl hx hb (key 0 rfl) rfl k) hk
  case lshr => obtain ⟨x, y, r, rfl, hk⟩ := w_li_inv hw; exact MW.go (fun hx hb hL k => lv_lshr hx hb (key 0 rfl) rfl k) hk
  case goto off => exact MW.go (fun hx hb hL k => lv_goto hx hb (key 2 rfl) (of_decide_eq_true hr) k) hw
  case ifCond cd off =>
    obtain ⟨x, r, rfl, hk⟩ := w_i_inv hw
    have ht : (pc : Int) + off = (a : Int) := of_decide_eq_true hr
    cases cd
    case eq => exact MW.br (fun hx hb k1 k2 => lv_if_eq hx hb (key 2 rfl) ht k1 k2) hk
    case ne => exact MW.br (P := ¬ x = 0) (fun hx hb k1 k2 => lv_if_ne hx hb (key 2 rfl) ht k1 (fun q => k2 (fun z => z q))) hk
    case lt => exact MW.br (fun hx hb k1 k2 => lv_if_lt hx hb (key 2 rfl) ht k1 k2) hk
    case ge => exact MW.br (fun hx hb k1 k2 => lv_if_ge hx hb (key 2 rfl) ht k1 k2) hk
    case gt => exact MW.br (fun hx hb k1 k2 => lv_if_gt hx hb (key 2 rfl) ht k1 k2) hk
    case le => exact MW.br (fun hx hb k1 k2 => lv_if_le hx hb (key 2 rfl) ht k1 k2) hk
  case if_icmp cd off =>
    obtain ⟨x, y, r, rfl, hk⟩ := w_ii_inv hw
    have ht : (pc : Int) + off = (a : Int) := of_decide_eq_true hr
    cases cd
    case eq => exact MW.br (fun hx hb k1 k2 => lv_icmp_eq hx hb (key 2 rfl) ht k1 k2) hk
    case ne => exact MW.br (P := ¬ x = y) (fun hx hb k1 k2 => lv_icmp_ne hx hb (key 2 rfl) ht k1 (fun q => k2 (fun z => z q))) hk
    case lt => exact MW.br (fun hx hb k1 k2 => lv_icmp_lt hx hb (key 2 rfl) ht k1 k2) hk
    case ge => exact MW.br (fun hx hb k1 k2 => lv_icmp_ge hx hb (key 2 rfl) ht k1 k2) hk
    case gt => exact MW.br (fun hx hb k1 k2 => lv_icmp_gt hx hb (key 2 rfl) ht k1 k2) hk
    case le => exact MW.br (fun hx hb k1 k2 => lv_icmp_le hx hb (key 2 rfl) ht k1 k2) hk
  case getfield idx =>
    obtain ⟨x, r, rfl, hk⟩ := w_r_inv hw
    obtain ⟨fs, hx0, hk⟩ := w_ob_inv hk
    obtain ⟨v, hv, hk⟩ := w_o_inv hk
    exact MW.getf hx0 hv hr (key 2 rfl) hk
  case putfield idx =>
    obtain ⟨x, v, r, rfl, hk⟩ := w_rv_inv hw
    obtain ⟨fs, hx0, hl, hf, hk⟩ := w_ob_inv hk
    have hr2 := (Bool.and_eq_true _ _).mp hr
    exact MW.putf hx0 hl hf hr2.1 hr2.2 (key 2 rfl) hk
  case iaload =>
    obtain ⟨x, i, r, rfl, hk⟩ := w_ri_inv hw
    obtain ⟨n, f, hx0, hi, hk⟩ := w_ai_inv hk
    exact MW.iald hx0 hi (key 0 rfl) hk
  case baload =>
    obtain ⟨x, i, r, rfl, hk⟩ := w_ri_inv hw
    obtain ⟨n, f, hx0, hi, hk⟩ := w_ai_inv hk
    have ha : a = 1 ∨ a = 2 := by simpa [okR] using hr
    exact MW.bald ha hx0 hi (key 0 rfl) hk
  case aaload =>
    obtain ⟨x, i, r, rfl, hk⟩ := w_ri_inv hw
    obtain ⟨n, f, hx0, hi, hk1⟩ := w_ar_inv hk
    obtain ⟨y, hy, hk2⟩ := w_o_inv hk1
    clear hk hk1 hw
    have ha : a = 3 ∨ a = 4 ∨ a = 5 := by simpa [okR] using hr
    rcases ha with rfl | rfl | rfl
    · exact MW.aload (t := 3) hx0 rfl rfl hi hy (key 0 rfl) hk2
    · exact MW.aload (t := 4) hx0 rfl rfl hi hy (key 0 rfl) hk2
    · exact MW.aload (t := 5) hx0 rfl rfl hi hy (key 0 rfl) hk2
  case iastore =>
    obtain ⟨x, i, v, r, rfl, hk⟩ := w_rii_inv hw
    obtain ⟨n, f, hx0, hi, hk⟩ := w_ai_inv hk
    exact MW.iast hx0 hi (key 0 rfl) hk
  case bastore =>
    obtain ⟨x, i, v, r, rfl, hk⟩ := w_rii_inv hw
    obtain ⟨n, f, hx0, hi, hk⟩ := w_ai_inv hk
    have ha : a = 1 ∨ a = 2 := by simpa [okR] using hr
    exact MW.bast ha hx0 hi (key 0 rfl) hk
  case invokevirtual idx =>
    obtain ⟨q, hq, hk⟩ := w_o_inv hw
    obtain ⟨As, st'⟩ := q
    obtain ⟨x, r, hst', hk⟩ := w_r_inv hk
    obtain ⟨fs, hx0, h1, hst, hk⟩ := w_ob_inv hk
    obtain ⟨bb, e1, e2, e3⟩ := mpop_eq b [] st As st' hq
    have hr2 := (Bool.and_eq_true _ _).mp hr
    have e4 : st = As.reverse ++ .ref x :: r := by
      rw [e2, e1]
      simp only [List.append_nil, List.reverse_reverse]
      exact congrArg _ hst'
    rw [e4]
    exact MW.callV hR h1 hst hx0 (mlink hr2.1) (mword hr2.2) (by rw [e1]; simpa using e3) (key 2 rfl) hk
  case invokestatic idx =>
    unfold wpI at hw
    dsimp only at hw
    unfold okR at hr
    dsimp only at hr
    by_cases c0 : a = 1000
    · subst c0
      obtain ⟨x, sp, y, dp, n, r, rfl, hk⟩ := w_cp_inv (by rw [if_pos rfl] at hw; exact hw)
      obtain ⟨n0, f, hx0, hk⟩ := w_ai_inv hk
      obtain ⟨n1, g, hy0, h1, hst, a1, a2, a3, a4, a5, hk⟩ := w_ai_inv hk
      exact MW.copy hR h1 hst hx0 hy0 a1 a2 a3 a4 a5 (slink (a := 1000) (by rw [if_pos (by decide)] at hr; exact hr)) (key 2 rfl) hk
    · rw [if_neg c0] at hw
      by_cases c1 : a = 1010
      · subst c1
        obtain ⟨x, y, r, rfl, h1, hst, hk⟩ := w_ii_inv (by rw [if_pos rfl] at hw; exact hw)
        exact MW.mth hR h1 hst (key 2 rfl) (Or.inl ⟨x, y, slink (a := 1010) (by rw [if_pos (by decide)] at hr; exact hr), rfl, rfl⟩) hk
      · rw [if_neg c1] at hw
        by_cases c2 : a = 1011
        · subst c2
          obtain ⟨x, y, r, rfl, h1, hst, hk⟩ := w_ii_inv (by rw [if_pos rfl] at hw; exact hw)
          exact MW.mth hR h1 hst (key 2 rfl) (Or.inr (Or.inl ⟨x, y, slink (a := 1011) (by rw [if_pos (by decide)] at hr; exact hr), rfl, rfl⟩)) hk
        · rw [if_neg c2] at hw
          by_cases c3 : a = 1012
          · subst c3
            obtain ⟨x, r, rfl, h1, hst, hk⟩ := w_i_inv (by rw [if_pos rfl] at hw; exact hw)
            exact MW.mth hR h1 hst (key 2 rfl) (Or.inr (Or.inr ⟨x, slink (a := 1012) (by rw [if_pos (by decide)] at hr; exact hr), rfl, rfl⟩)) hk
          · rw [if_neg c3] at hw
            by_cases c4 : a = 1013
            · rw [if_pos c4] at hw; exact hw.elim
            · rw [if_neg c4] at hw
              obtain ⟨q, hq, h1, hst, hk⟩ := w_o_inv hw
              obtain ⟨As, r⟩ := q
              obtain ⟨bb, e1, e2, e3⟩ := mpop_eq b [] st As r hq
              have hr1 : (rTabM.any (fun q => q.1 == mCls M && (q.2.1 == idx && (q.2.2.1 == a && q.2.2.2.1 == 0))) && rTabW.any (fun q => q.1 == a && (q.2.1 == 1 && q.2.2.1 == b))) = true := by
                rw [if_neg (by omega)] at hr
                exact hr
              have hr2 := (Bool.and_eq_true _ _).mp hr1
              have e4 : st = As.reverse ++ r := by
                rw [e2, e1]
                simp only [List.append_nil, List.reverse_reverse]
              rw [e4]
              exact MW.callS hR h1 hst (mlink hr2.1) (mword hr2.2) (by rw [e1]; simpa using e3) (key 2 rfl) hk
  case invokespecial idx =>
    unfold wpI at hw
    dsimp only at hw
    unfold okR at hr
    dsimp only at hr
    by_cases c0 : a = 1001
    · subst c0
      obtain ⟨x, r, rfl, h1, hst, hk⟩ := w_r_inv (by rw [if_pos rfl] at hw; exact hw)
      exact MW.objI hR h1 hst (slink (a := 1001) (by rw [if_pos rfl] at hr; exact hr)) (key 2 rfl) hk
    · rw [if_neg c0] at hw
      obtain ⟨q, hq, hk⟩ := w_o_inv hw
      obtain ⟨As, st'⟩ := q
      obtain ⟨x, r, hst', h1, hst, f1, f2, hk⟩ := w_r_inv hk
      obtain ⟨bb, e1, e2, e3⟩ := mpop_eq b [] st As st' hq
      have hr1 : (rTabM.any (fun q => q.1 == mCls M && (q.2.1 == idx && q.2.2.1 == a)) && rTabW.any (fun q => q.1 == a && (q.2.1 == 2 && q.2.2.1 == b))) = true := by
        rw [if_neg c0] at hr
        exact hr
      have hr2 := (Bool.and_eq_true _ _).mp hr1
      have e4 : st = As.reverse ++ .ref x :: r := by
        rw [e2, e1]
        simp only [List.append_nil, List.reverse_reverse]
        exact congrArg _ hst'
      rw [e4]
      exact MW.callI hR h1 hst ⟨f1, f2⟩ (mlinkN hr2.1) (mword hr2.2) (by rw [e1]; simpa using e3) (key 2 rfl) hk
  case ireturn =>
    unfold wpI at hw
    dsimp only at hw
    split at hw
    · exact (hret pc L h al).1 _ (key 0 rfl) hw.1 hw.2
    · exact hw.elim
  case areturn =>
    unfold wpI at hw
    dsimp only at hw
    split at hw
    · exact (hret pc L h al).2.1 _ (key 0 rfl) hw.1 hw.2
    · exact hw.elim
  case return_ =>
    unfold wpI at hw
    dsimp only at hw
    split at hw
    · exact (hret pc L h al).2.2 (key 0 rfl) hw.1 hw.2
    · exact hw.elim
  all_goals exact (hw : False).elim
end MWR
