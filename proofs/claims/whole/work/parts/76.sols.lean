/-! all rows of choices that make a ruling, in the order of the search -/
def enc : List Bool → Nat
  | [] => 0
  | b :: bs => (if b = true then 1 else 0) + 2 * enc bs
/-- the masks of all rulings from event x on -/
def mks (es : List Ev) (may : Nat → Bool) : Nat → Nat → (Nat → Nat) → Nat → Nat → List Nat
  | 0, _, _, _, sw => [sw]
  | n + 1, x, mu, met, sw =>
    if evK es x = 0 then mks es may n (x + 1) (bornF mu (evP es x)) met sw
    else if evK es x = 2 then (if mu (evP es x) = evP es x + 1 then mks es may n (x + 1) (diesF mu (evP es x)) met sw else [])
    else (if mu (evP es x) = evP es x + 1 then [] else mks es may n (x + 1) (swF mu (evP es x)) (met + 1) sw ++ (if may x = true ∧ ¬ mxd mu (evP es x) then mks es may n (x + 1) mu (met + 1) (sw + 2 ^ met) else []))
def allB : Nat → List (List Bool)
  | 0 => [[]]
  | c + 1 => (allB c).map (List.cons false) ++ (allB c).map (List.cons true)
/-- crosses among the n events from x on -/
def crN (es : List Ev) : Nat → Nat → Nat
  | 0, _ => 0
  | n + 1, x => (if evK es x = 1 then 1 else 0) + crN es n (x + 1)
theorem rk_mks {es : List Ev} {may : Nat → Bool} : ∀ (n x : Nat) (mu : Nat → Nat) (met sw : Nat), (∀ y, x ≤ y → y < x + n → evK es y ≤ 2) → mks es may n x mu met sw = ((allB (crN es n x)).filter (rk es may n x mu)).map (fun b => sw + 2 ^ met * enc b)
  | 0, x, mu, met, sw, _ => by
    show [sw] = (List.filter (fun _ => true) [[]]).map _
    simp [enc]
  | n + 1, x, mu, met, sw, hk => by
    have k2 := hk x (Nat.le_refl _) (by omega)
    have hk' : ∀ y, x + 1 ≤ y → y < x + 1 + n → evK es y ≤ 2 := fun y h1 h2 => hk y (by omega) (by omega)
    have ec : crN es (n + 1) x = (if evK es x = 1 then 1 else 0) + crN es n (x + 1) := rfl
    rcases (by omega : evK es x = 0 ∨ evK es x = 1 ∨ evK es x = 2) with c | c | c
    · have e1 : mks es may (n + 1) x mu met sw = mks es may n (x + 1) (bornF mu (evP es x)) met sw := if_pos c
      have e2 : rk es may (n + 1) x mu = rk es may n (x + 1) (bornF mu (evP es x)) := by
        funext b
        show (if _ then _ else _) = _
        rw [if_pos c]
      rw [e1, e2, ec, if_neg (by omega), Nat.zero_add]
      exact rk_mks n (x + 1) _ met sw hk'
    · have e1 : mks es may (n + 1) x mu met sw = (if mu (evP es x) = evP es x + 1 then [] else mks es may n (x + 1) (swF mu (evP es x)) (met + 1) sw ++ (if may x = true ∧ ¬ mxd mu (evP es x) then mks es may n (x + 1) mu (met + 1) (sw + 2 ^ met) else [])) := by
        show (if _ then _ else if _ then _ else _) = _
        rw [if_neg (by omega), if_neg (by omega)]
      have r0 : ∀ b, rk es may (n + 1) x mu b = (if mu (evP es x) = evP es x + 1 then false else match b with
        | [] => false
        | true :: bs => if may x = true ∧ ¬ mxd mu (evP es x) then rk es may n (x + 1) mu bs else false
        | false :: bs => rk es may n (x + 1) (swF mu (evP es x)) bs) := by
        intro b
        rw [rk_succ, if_neg (by omega), if_neg (by omega)]
        rfl
      rw [e1, ec, if_pos c, Nat.add_comm 1]
      show _ = (List.filter _ ((allB (crN es n (x + 1))).map (List.cons false) ++ (allB (crN es n (x + 1))).map (List.cons true))).map _
      rw [List.filter_append, List.map_append]
      by_cases q : mu (evP es x) = evP es x + 1
      · rw [if_pos q]
        have f : ∀ l : List (List Bool), l.filter (rk es may (n + 1) x mu) = [] := by
          intro l
          rw [List.filter_eq_nil_iff]
          intro a _
          rw [r0, if_pos q]
          decide
        rw [f, f]
        rfl
      · rw [if_neg q]
        congr 1
        · rw [rk_mks n (x + 1) _ (met + 1) sw hk', List.filter_map, List.map_map]
          have f : (rk es may (n + 1) x mu ∘ List.cons false) = rk es may n (x + 1) (swF mu (evP es x)) := by
            funext b
            show rk es may (n + 1) x mu (false :: b) = _
            rw [r0, if_neg q]
          rw [f]
          refine List.map_congr_left (fun b _ => ?_)
          show sw + 2 ^ (met + 1) * enc b = sw + 2 ^ met * (0 + 2 * enc b)
          rw [Nat.pow_succ, Nat.zero_add, Nat.mul_assoc]
        · by_cases m : may x = true ∧ ¬ mxd mu (evP es x)
          · rw [if_pos m, rk_mks n (x + 1) _ (met + 1) _ hk', List.filter_map, List.map_map]
            have f : (rk es may (n + 1) x mu ∘ List.cons true) = rk es may n (x + 1) mu := by
              funext b
              show rk es may (n + 1) x mu (true :: b) = _
              rw [r0, if_neg q]
              show (if _ then _ else _) = _
              rw [if_pos m]
            rw [f]
            refine List.map_congr_left (fun b _ => ?_)
            show sw + 2 ^ met + 2 ^ (met + 1) * enc b = sw + 2 ^ met * (1 + 2 * enc b)
            rw [Nat.pow_succ, Nat.mul_add, Nat.mul_one, Nat.mul_assoc, Nat.add_assoc]
          · rw [if_neg m]
            have f : ((allB (crN es n (x + 1))).map (List.cons true)).filter (rk es may (n + 1) x mu) = [] := by
              rw [List.filter_eq_nil_iff]
              intro a ha
              obtain ⟨b, -, rfl⟩ := List.mem_map.mp ha
              rw [r0, if_neg q]
              show ¬ (if _ then _ else _) = true
              rw [if_neg m]
              decide
            rw [f]
            rfl
    · have e1 : mks es may (n + 1) x mu met sw = (if mu (evP es x) = evP es x + 1 then mks es may n (x + 1) (diesF mu (evP es x)) met sw else []) := by
        show (if _ then _ else if _ then _ else _) = _
        rw [if_neg (by omega), if_pos c]
      have r0 : ∀ b, rk es may (n + 1) x mu b = (if mu (evP es x) = evP es x + 1 then rk es may n (x + 1) (diesF mu (evP es x)) b else false) := by
        intro b
        show (if _ then _ else if _ then _ else _) = _
        rw [if_neg (by omega), if_pos c]
      rw [e1, ec, if_neg (show ¬ evK es x = 1 by omega), Nat.zero_add]
      by_cases q : mu (evP es x) = evP es x + 1
      · rw [if_pos q, rk_mks n (x + 1) _ met sw hk']
        congr 2
        funext b
        rw [r0, if_pos q]
      · rw [if_neg q]
        have f : ∀ l : List (List Bool), l.filter (rk es may (n + 1) x mu) = [] := by
          intro l
          rw [List.filter_eq_nil_iff]
          intro a _
          rw [r0, if_neg q]
          decide
        rw [f]
        rfl
theorem bitL_top {c s : Nat} (h : s < 2 ^ c) : bitL (c + 1) s 0 = false ∧ bitL (c + 1) (2 ^ c + s) 0 = true ∧ ∀ i, i < c → bitL (c + 1) s (i + 1) = bitL c s i ∧ bitL (c + 1) (2 ^ c + s) (i + 1) = bitL c s i := by
  have hp : 0 < 2 ^ c := Nat.pow_pos (by decide)
  unfold bitL
  refine ⟨?_, ?_, fun i hi => ⟨?_, ?_⟩⟩
  · rw [show c + 1 - 1 - 0 = c by omega, Nat.div_eq_of_lt h]
    rfl
  · rw [show c + 1 - 1 - 0 = c by omega, Nat.add_div_left _ hp, Nat.div_eq_of_lt h]
    rfl
  · rw [show c + 1 - 1 - (i + 1) = c - 1 - i by omega]
  · rw [show c + 1 - 1 - (i + 1) = c - 1 - i by omega]
    congr 2
    have e : 2 ^ c = 2 ^ (c - 1 - i) * (2 * 2 ^ i) := by
      rw [← Nat.pow_succ', ← Nat.pow_add]
      congr 1
      omega
    rw [e, Nat.mul_add_div (Nat.pow_pos (by decide)), Nat.mul_add_mod]
theorem bits_cons {c s : Nat} (h : s < 2 ^ c) : bitsL (c + 1) s = false :: bitsL c s ∧ bitsL (c + 1) (2 ^ c + s) = true :: bitsL c s := by
  obtain ⟨h1, h2, h3⟩ := bitL_top h
  unfold bitsL
  rw [List.range_succ_eq_map, List.map_cons, List.map_cons, List.map_map, List.map_map, h1, h2]
  refine ⟨?_, ?_⟩
  · congr 1
    exact List.map_congr_left (fun i hi => (h3 i (List.mem_range.mp hi)).1)
  · congr 1
    exact List.map_congr_left (fun i hi => (h3 i (List.mem_range.mp hi)).2)
theorem allB_eq : ∀ c, allB c = (List.range (2 ^ c)).map (bitsL c)
  | 0 => rfl
  | c + 1 => by
    show (allB c).map (List.cons false) ++ (allB c).map (List.cons true) = _
    rw [allB_eq c, Nat.pow_succ, Nat.mul_two, List.range_add, List.map_append, List.map_map, List.map_map, List.map_map]
    congr 1
    · exact List.map_congr_left (fun s hs => ((bits_cons (List.mem_range.mp hs)).1).symm)
    · exact List.map_congr_left (fun s hs => ((bits_cons (List.mem_range.mp hs)).2).symm)
theorem crN_eq {es : List Ev} : ∀ n x, x + n ≤ es.length → crs (es.take (x + n)) = crs (es.take x) + crN es n x
  | 0, x, _ => rfl
  | n + 1, x, h => by
    have := crN_eq (es := es) n (x + 1) (by omega)
    rw [show x + (n + 1) = x + 1 + n by omega, this, crs_take (by omega)]
    show _ = _ + ((if evK es x = 1 then 1 else 0) + crN es n (x + 1))
    omega
theorem crN_all (es : List Ev) : crN es es.length 0 = crs es := by
  have := crN_eq (es := es) es.length 0 (by omega)
  rw [Nat.zero_add, List.take_length, List.take_zero] at this
  rw [this]
  show _ = 0 + _
  omega
/-- bits counted -/
def pcN : Nat → Nat → Nat
  | 0, _ => 0
  | k + 1, s => s % 2 + pcN k (s / 2)
theorem pcN_enc : ∀ (k : Nat) (bs : List Bool), bs.length ≤ k → pcN k (enc bs) = cT bs
  | 0, [], _ => rfl
  | 0, b :: bs, h => by simp at h
  | k + 1, [], _ => by
    show 0 % 2 + pcN k (0 / 2) = 0
    rw [show (0 : Nat) / 2 = enc [] from rfl, pcN_enc k [] (Nat.zero_le _)]
    rfl
  | k + 1, b :: bs, h => by
    have h' : bs.length ≤ k := by simpa using h
    show enc (b :: bs) % 2 + pcN k (enc (b :: bs) / 2) = cT (b :: bs)
    have e : enc (b :: bs) = (if b = true then 1 else 0) + 2 * enc bs := rfl
    have e2 : enc (b :: bs) / 2 = enc bs := by rw [e]; split <;> omega
    rw [e2, pcN_enc k bs h', e]
    unfold cT
    rw [List.countP_cons]
    cases b <;> simp <;> omega
theorem enc_lt : ∀ bs : List Bool, enc bs < 2 ^ bs.length
  | [] => by decide
  | b :: bs => by
    have := enc_lt bs
    show (if b = true then 1 else 0) + 2 * enc bs < 2 ^ (bs.length + 1)
    rw [Nat.pow_succ]
    split <;> omega
theorem enc_bit : ∀ (bs : List Bool) (i : Nat), i < bs.length → enc bs / 2 ^ i % 2 = if bs.getD i false = true then 1 else 0
  | [], i, h => absurd h (Nat.not_lt_zero i)
  | b :: bs, 0, _ => by
    show ((if b = true then 1 else 0) + 2 * enc bs) / 2 ^ 0 % 2 = if b = true then 1 else 0
    rw [Nat.pow_zero, Nat.div_one]
    split <;> omega
  | b :: bs, i + 1, h => by
    have h' : i < bs.length := by simpa using h
    show ((if b = true then 1 else 0) + 2 * enc bs) / 2 ^ (i + 1) % 2 = if bs.getD i false = true then 1 else 0
    rw [← enc_bit bs i h', Nat.pow_succ', ← Nat.div_div_eq_div_mul]
    congr 2
    split <;> omega
/-- found, the first mask, found by their bits -/
abbrev NS : Type := Nat × Nat × (Nat → Nat)
def ntS (st : NS) (s : Nat) : NS := (st.1 + 1, (if st.1 = 0 then s else st.2.1), fun k => if k = pcN 12 s then st.2.2 k + 1 else st.2.2 k)
def tkO {α : Type} (one : Bool) (l : List α) : List α := if one = true then l.take 1 else l
theorem tk_app {one : Bool} {l m : List Nat} : tkO one (l ++ m) = if one = true ∧ l ≠ [] then tkO one l else tkO one l ++ tkO one m := by
  unfold tkO
  cases one
  · simp
  · cases l with
    | nil => simp
    | cons a l => simp
theorem nt_1 : ∀ (l : List Nat) (st : NS), (l.foldl ntS st).1 = st.1 + l.length
  | [], st => rfl
  | s :: l, st => by
    show (l.foldl ntS (ntS st s)).1 = _
    rw [nt_1 l]
    show st.1 + 1 + l.length = st.1 + (l.length + 1)
    omega
theorem nt_3 : ∀ (l : List Nat) (st : NS) (k : Nat), (l.foldl ntS st).2.2 k = st.2.2 k + l.countP (fun s => k == pcN 12 s)
  | [], st, k => rfl
  | s :: l, st, k => by
    show (l.foldl ntS (ntS st s)).2.2 k = _
    rw [nt_3 l, List.countP_cons]
    show (if k = pcN 12 s then st.2.2 k + 1 else st.2.2 k) + _ = _
    by_cases c : k = pcN 12 s
    · rw [if_pos c, if_pos (by rw [c]; exact beq_self_eq_true _)]
      omega
    · rw [if_neg c, if_neg (by rw [beq_iff_eq]; exact c)]
      omega
theorem mks_le {es : List Ev} {may : Nat → Bool} {n x : Nat} {mu : Nat → Nat} {met sw : Nat} (hk : ∀ y, x ≤ y → y < x + n → evK es y ≤ 2) : (mks es may n x mu met sw).length ≤ 2 ^ crN es n x := by
  rw [rk_mks n x mu met sw hk, List.length_map]
  refine Nat.le_trans (List.length_filter_le _ _) ?_
  rw [allB_eq, List.length_map, List.length_range]
  exact Nat.le_refl _
