/-! instructions that touch locals and stack alone -/
abbrev Loc_s : Type := List (Option MV)
def ldI (ls : Loc_s) (k : Nat) (st : List MV) : Option (Loc_s × List MV) := match ls[k]? with
  | some (some (.inl x)) => some (ls, .inl x :: st)
  | _ => none
def ldL (ls : Loc_s) (k : Nat) (st : List MV) : Option (Loc_s × List MV) := match ls[k]? with
  | some (some (.inr (.inl x))) => some (ls, .inr (.inl x) :: st)
  | _ => none
def ldA (ls : Loc_s) (k : Nat) (st : List MV) : Option (Loc_s × List MV) := match ls[k]? with
  | some (some (.inr (.inr x))) => some (ls, .inr (.inr x) :: st)
  | _ => none
def stI (ls : Loc_s) (k : Nat) (st : List MV) : Option (Loc_s × List MV) := match st with
  | .inl x :: r => if k < ls.length then some (lput1 ls k (.inl x), r) else none
  | _ => none
def stL (ls : Loc_s) (k : Nat) (st : List MV) : Option (Loc_s × List MV) := match st with
  | .inr (.inl x) :: r => if k + 1 < ls.length then some (lput2 ls k (.inr (.inl x)), r) else none
  | _ => none
def stA (ls : Loc_s) (k : Nat) (st : List MV) : Option (Loc_s × List MV) := match st with
  | .inr (.inr x) :: r => if k < ls.length then some (lput1 ls k (.inr (.inr x)), r) else none
  | _ => none
def incI (ls : Loc_s) (k : Nat) (n : Int) (st : List MV) : Option (Loc_s × List MV) := match ls[k]? with
  | some (some (.inl x)) => if k < ls.length then some (lput1 ls k (.inl (x + Int32.ofInt n)), st) else none
  | _ => none
def bop (f : Int32 → Int32 → Int32) (ls : Loc_s) (st : List MV) : Option (Loc_s × List MV) := match st with
  | .inl y :: .inl x :: r => some (ls, .inl (f x y) :: r)
  | _ => none
def bopL (f : Int64 → Int64 → Int64) (ls : Loc_s) (st : List MV) : Option (Loc_s × List MV) := match st with
  | .inr (.inl y) :: .inr (.inl x) :: r => some (ls, .inr (.inl (f x y)) :: r)
  | _ => none
/-- an instruction of n bytes -/
def pstep (i : Instr) (n : Nat) (ls : Loc_s) (st : List MV) : Option (Loc_s × List MV) := match i with
  | .iconst k => if n = 1 then some (ls, .inl (Int32.ofInt k) :: st) else none
  | .bipush k => if n = 2 then some (ls, .inl (Int8.ofInt k).toInt32 :: st) else none
  | .sipush k => if n = 3 then some (ls, .inl (Int16.ofInt k).toInt32 :: st) else none
  | .lconst k => if n = 1 then some (ls, .inr (.inl (Int64.ofNat k.val)) :: st) else none
  | .aconst_null => if n = 1 then some (ls, .inr (.inr 0) :: st) else none
  | .iload k => if n = 2 then ldI ls k st else none
  | .iload_n k => if n = 1 then ldI ls k.val st else none
  | .lload k => if n = 2 then ldL ls k st else none
  | .lload_n k => if n = 1 then ldL ls k.val st else none
  | .aload k => if n = 2 then ldA ls k st else none
  | .aload_n k => if n = 1 then ldA ls k.val st else none
  | .istore k => if n = 2 then stI ls k st else none
  | .istore_n k => if n = 1 then stI ls k.val st else none
  | .lstore k => if n = 2 then stL ls k st else none
  | .lstore_n k => if n = 1 then stL ls k.val st else none
  | .astore k => if n = 2 then stA ls k st else none
  | .astore_n k => if n = 1 then stA ls k.val st else none
  | .iinc k c => if n = 3 then incI ls k c st else none
  | .iadd => if n = 1 then bop (fun x y => x + y) ls st else none
  | .isub => if n = 1 then bop (fun x y => x - y) ls st else none
  | .imul => if n = 1 then bop (fun x y => x * y) ls st else none
  | .iand => if n = 1 then bop (fun x y => x &&& y) ls st else none
  | .ior => if n = 1 then bop (fun x y => x ||| y) ls st else none
  | .ixor => if n = 1 then bop (fun x y => x ^^^ y) ls st else none
  | .ishl => if n = 1 then bop (fun x y => x <<< (y &&& 31)) ls st else none
  | .ishr => if n = 1 then bop (fun x y => x >>> (y &&& 31)) ls st else none
  | .iushr => if n = 1 then bop (fun x y => shr x y) ls st else none
  | .ladd => if n = 1 then bopL (fun x y => x + y) ls st else none
  | .lsub => if n = 1 then bopL (fun x y => x - y) ls st else none
  | .lmul => if n = 1 then bopL (fun x y => x * y) ls st else none
  | .ineg => if n = 1 then (match st with
    | .inl x :: r => some (ls, .inl (-x) :: r)
    | _ => none) else none
  | .i2l => if n = 1 then (match st with
    | .inl x :: r => some (ls, .inr (.inl x.toInt64) :: r)
    | _ => none) else none
  | .i2b => if n = 1 then (match st with
    | .inl x :: r => some (ls, .inl x.toInt8.toInt32 :: r)
    | _ => none) else none
  | .i2c => if n = 1 then (match st with
    | .inl x :: r => some (ls, .inl (x.toUInt32 % 65536).toInt32 :: r)
    | _ => none) else none
  | .lcmp => if n = 1 then (match st with
    | .inr (.inl y) :: .inr (.inl x) :: r => some (ls, .inl (lg_cmp x y) :: r)
    | _ => none) else none
  | .dup => if n = 1 then (match st with
    | v :: r => if mcat v = 1 then some (ls, v :: v :: r) else none
    | _ => none) else none
  | .dup2 => if n = 1 then (match st with
    | v :: w :: r => if mcat v = 1 ∧ mcat w = 1 then some (ls, v :: w :: v :: w :: r) else none
    | _ => none) else none
  | .dup_x1 => if n = 1 then (match st with
    | v :: w :: r => if mcat v = 1 ∧ mcat w = 1 then some (ls, v :: w :: v :: r) else none
    | _ => none) else none
  | .pop => if n = 1 then (match st with
    | v :: r => if mcat v = 1 then some (ls, r) else none
    | _ => none) else none
  | _ => none
theorem ifs {α : Type} {c : Prop} [Decidable c] {a : Option α} {x : α} (h : (if c then a else none) = some x) : c ∧ a = some x := by
  split at h
  · exact ⟨by assumption, h⟩
  · cases h
section PS
variable {l : Launch} {G : Gv} {Y : MI} {lim : Nat × Nat} {x : Option (Option Value × Mem)} {pc : Nat} {ls ls' : Loc_s} {st st' : List MV} {M : Mem}
set_option maxHeartbeats 4000000 in
theorem pstep_ok {i : Instr} {n : Nat} (hd : decode Y.2.1 pc = .ok (i, n)) (hp : pstep i n ls st = some (ls', st')) (k : SimR l G Y lim x (pc + n) ls' st' M) : SimR l G Y lim x pc ls st M := by
  intro res hres p e R s m args below meth c H locs cells slots Q lsA hC hR hS hN hlen hl hr
  have hx := hC.1
  have hb := hC.2.1
  have kk := fun (lsA' : Array Slot) (hlen' : ls'.length = Y.2.2.1) (hl' : lv_has lsA' Y.2.2.1 (asc G 0 ls')) => k res hres p e R s m args below meth c H locs cells slots Q lsA' hC hR hS hN hlen' hl' hr
  have c1 : ∀ v : MV, mcat v = 1 → (cv G v).category = 1 := fun v h => (cv_cat G v).trans h
  cases i with
  | iconst a =>
    obtain ⟨rfl, h⟩ := ifs hp; cases h
    exact lv_iconst hx hb hd rfl (kk _ hlen hl)
  | bipush a =>
    obtain ⟨rfl, h⟩ := ifs hp; cases h
    exact lv_bipush hx hb hd rfl (kk _ hlen hl)
  | sipush a =>
    obtain ⟨rfl, h⟩ := ifs hp; cases h
    exact lv_sipush hx hb hd rfl (kk _ hlen hl)
  | lconst a =>
    obtain ⟨rfl, h⟩ := ifs hp; cases h
    exact lv_lconst hx hb hd rfl (kk _ hlen hl)
  | aconst_null =>
    obtain ⟨rfl, h⟩ := ifs hp; cases h
    exact lv_null hx hb hd (kk _ hlen hl)
  | iload a =>
    obtain ⟨rfl, h⟩ := ifs hp
    unfold ldI at h; split at h
    · rename_i v hv; cases h
      exact lv_iload hx hb hd (lv_look hl hv) (kk _ hlen hl)
    · cases h
  | iload_n a =>
    obtain ⟨rfl, h⟩ := ifs hp
    unfold ldI at h; split at h
    · rename_i v hv; cases h
      exact lv_iload_n hx hb hd rfl (lv_look hl hv) (kk _ hlen hl)
    · cases h
  | lload a =>
    obtain ⟨rfl, h⟩ := ifs hp
    unfold ldL at h; split at h
    · rename_i v hv; cases h
      exact lv_lload hx hb hd (lv_look hl hv) (kk _ hlen hl)
    · cases h
  | lload_n a =>
    obtain ⟨rfl, h⟩ := ifs hp
    unfold ldL at h; split at h
    · rename_i v hv; cases h
      exact lv_lload_n hx hb hd rfl (lv_look hl hv) (kk _ hlen hl)
    · cases h
  | aload a =>
    obtain ⟨rfl, h⟩ := ifs hp
    unfold ldA at h; split at h
    · rename_i v hv; cases h
      have h1 := lv_look hl hv
      have h2 := kk _ hlen hl
      simp only [List.map_cons, cv, rv, rof] at h1 h2
      by_cases e0 : v = 0
      · rw [if_pos e0] at h1 h2
        exact lv_aloadN hx hb hd h1 h2
      · rw [if_neg e0] at h1 h2
        exact lv_aload hx hb hd h1 h2
    · cases h
  | aload_n a =>
    obtain ⟨rfl, h⟩ := ifs hp
    unfold ldA at h; split at h
    · rename_i v hv; cases h
      have h1 := lv_look hl hv
      have h2 := kk _ hlen hl
      simp only [List.map_cons, cv, rv, rof] at h1 h2
      by_cases e0 : v = 0
      · rw [if_pos e0] at h1 h2
        exact lv_aload_nN hx hb hd rfl h1 h2
      · rw [if_neg e0] at h1 h2
        exact lv_aload_n hx hb hd rfl h1 h2
    · cases h
  | istore a =>
    obtain ⟨rfl, h⟩ := ifs hp
    unfold stI at h; split at h
    · rename_i v r
      obtain ⟨hk, h⟩ := ifs h; cases h
      exact lv_istore hx hb hd hl (by omega) rfl (fun lsA' hl' => kk _ (by rw [lput1_len]; exact hlen) (lv_mono hl' lput1_sub))
    · cases h
  | istore_n a =>
    obtain ⟨rfl, h⟩ := ifs hp
    unfold stI at h; split at h
    · rename_i v r
      obtain ⟨hk, h⟩ := ifs h; cases h
      exact lv_istore_n hx hb hd rfl hl (by omega) rfl (fun lsA' hl' => kk _ (by rw [lput1_len]; exact hlen) (lv_mono hl' lput1_sub))
    · cases h
  | lstore a =>
    obtain ⟨rfl, h⟩ := ifs hp
    unfold stL at h; split at h
    · rename_i v r
      obtain ⟨hk, h⟩ := ifs h; cases h
      exact lv_lstore hx hb hd hl (by omega) rfl (fun lsA' hl' => kk _ (by rw [lput2_len]; exact hlen) (lv_mono hl' lput2_sub))
    · cases h
  | lstore_n a =>
    obtain ⟨rfl, h⟩ := ifs hp
    unfold stL at h; split at h
    · rename_i v r
      obtain ⟨hk, h⟩ := ifs h; cases h
      exact lv_lstore_n hx hb hd rfl hl (by omega) rfl (fun lsA' hl' => kk _ (by rw [lput2_len]; exact hlen) (lv_mono hl' lput2_sub))
    · cases h
  | astore a =>
    obtain ⟨rfl, h⟩ := ifs hp
    unfold stA at h; split at h
    · rename_i v r
      obtain ⟨hk, h⟩ := ifs h; cases h
      have h3 : ∀ lsA' : Array Slot, lv_has lsA' Y.2.2.1 ((a, cv G (.inr (.inr v))) :: (asc G 0 ls).filter (fun q => !(q.1 == a) && !(q.1 + 1 == a && q.2.category == 2))) → _ := fun lsA' hl' => kk lsA' (by rw [lput1_len]; exact hlen) (lv_mono hl' lput1_sub)
      show W p l e R s m args below meth c H locs cells slots Q (F0 m pc lsA (cv G (.inr (.inr v)) :: st'.map (cv G)))
      simp only [cv, rv, rof] at h3 ⊢
      by_cases e0 : v = 0
      · rw [if_pos e0] at h3 ⊢
        exact lv_astoreN hx hb hd hl (by omega) rfl h3
      · rw [if_neg e0] at h3 ⊢
        exact lv_astore hx hb hd hl (by omega) rfl h3
    · cases h
  | astore_n a =>
    obtain ⟨rfl, h⟩ := ifs hp
    unfold stA at h; split at h
    · rename_i v r
      obtain ⟨hk, h⟩ := ifs h; cases h
      have h3 : ∀ lsA' : Array Slot, lv_has lsA' Y.2.2.1 ((a.val, cv G (.inr (.inr v))) :: (asc G 0 ls).filter (fun q => !(q.1 == a.val) && !(q.1 + 1 == a.val && q.2.category == 2))) → _ := fun lsA' hl' => kk lsA' (by rw [lput1_len]; exact hlen) (lv_mono hl' lput1_sub)
      show W p l e R s m args below meth c H locs cells slots Q (F0 m pc lsA (cv G (.inr (.inr v)) :: st'.map (cv G)))
      simp only [cv, rv, rof] at h3 ⊢
      by_cases e0 : v = 0
      · rw [if_pos e0] at h3 ⊢
        exact lv_astore_nN hx hb hd rfl hl (by omega) rfl h3
      · rw [if_neg e0] at h3 ⊢
        exact lv_astore_n hx hb hd rfl hl (by omega) rfl h3
    · cases h
  | iinc a b =>
    obtain ⟨rfl, h⟩ := ifs hp
    unfold incI at h; split at h
    · rename_i v hv
      obtain ⟨hk, h⟩ := ifs h; cases h
      obtain ⟨j, hj⟩ := List.mem_iff_getElem?.mp ((asc_in (G := G) ls 0 a (.int v)).mpr ⟨a, .inl v, hv, by omega, rfl⟩)
      exact lv_iinc hx hb hd hl hj rfl (by omega) rfl (fun lsA' hl' => kk _ (by rw [lput1_len]; exact hlen) (lv_mono hl' lput1_sub))
    · cases h
  | iadd => obtain ⟨rfl, h⟩ := ifs hp; unfold bop at h; split at h <;> cases h; exact lv_iadd hx hb hd (kk _ hlen hl)
  | isub => obtain ⟨rfl, h⟩ := ifs hp; unfold bop at h; split at h <;> cases h; exact lv_isub hx hb hd (kk _ hlen hl)
  | imul => obtain ⟨rfl, h⟩ := ifs hp; unfold bop at h; split at h <;> cases h; exact lv_imul hx hb hd (kk _ hlen hl)
  | iand => obtain ⟨rfl, h⟩ := ifs hp; unfold bop at h; split at h <;> cases h; exact lv_iand hx hb hd (kk _ hlen hl)
  | ior => obtain ⟨rfl, h⟩ := ifs hp; unfold bop at h; split at h <;> cases h; exact lv_ior hx hb hd (kk _ hlen hl)
  | ixor => obtain ⟨rfl, h⟩ := ifs hp; unfold bop at h; split at h <;> cases h; exact lv_ixor hx hb hd (kk _ hlen hl)
  | ishl => obtain ⟨rfl, h⟩ := ifs hp; unfold bop at h; split at h <;> cases h; exact lv_ishl hx hb hd (kk _ hlen hl)
  | ishr => obtain ⟨rfl, h⟩ := ifs hp; unfold bop at h; split at h <;> cases h; exact lv_ishr hx hb hd (kk _ hlen hl)
  | iushr => obtain ⟨rfl, h⟩ := ifs hp; unfold bop at h; split at h <;> cases h; exact lv_iushr hx hb hd rfl (kk _ hlen hl)
  | ladd => obtain ⟨rfl, h⟩ := ifs hp; unfold bopL at h; split at h <;> cases h; exact lv_ladd hx hb hd (kk _ hlen hl)
  | lsub => obtain ⟨rfl, h⟩ := ifs hp; unfold bopL at h; split at h <;> cases h; exact lv_lsub hx hb hd (kk _ hlen hl)
  | lmul => obtain ⟨rfl, h⟩ := ifs hp; unfold bopL at h; split at h <;> cases h; exact lv_lmul hx hb hd (kk _ hlen hl)
  | ineg => obtain ⟨rfl, h⟩ := ifs hp; split at h <;> cases h; exact lv_ineg hx hb hd (kk _ hlen hl)
  | i2l => obtain ⟨rfl, h⟩ := ifs hp; split at h <;> cases h; exact lv_i2l hx hb hd rfl (kk _ hlen hl)
  | i2b => obtain ⟨rfl, h⟩ := ifs hp; split at h <;> cases h; exact lv_i2b hx hb hd rfl (kk _ hlen hl)
  | i2c => obtain ⟨rfl, h⟩ := ifs hp; split at h <;> cases h; exact lv_i2c hx hb hd rfl (kk _ hlen hl)
  | lcmp => obtain ⟨rfl, h⟩ := ifs hp; split at h <;> cases h; exact W.lcmp hx hb hd (kk _ hlen hl)
  | dup =>
    obtain ⟨rfl, h⟩ := ifs hp; split at h
    · obtain ⟨h1, h⟩ := ifs h; cases h
      exact lv_dup hx hb hd (c1 _ h1) (kk _ hlen hl)
    · cases h
  | dup2 =>
    obtain ⟨rfl, h⟩ := ifs hp; split at h
    · obtain ⟨h1, h⟩ := ifs h; cases h
      exact lv_dup2_11 hx hb hd (c1 _ h1.1) (c1 _ h1.2) (kk _ hlen hl)
    · cases h
  | dup_x1 =>
    obtain ⟨rfl, h⟩ := ifs hp; split at h
    · obtain ⟨h1, h⟩ := ifs h; cases h
      exact lv_dup_x1 hx hb hd (c1 _ h1.1) (c1 _ h1.2) (kk _ hlen hl)
    · cases h
  | pop =>
    obtain ⟨rfl, h⟩ := ifs hp; split at h
    · obtain ⟨h1, h⟩ := ifs h; cases h
      exact lv_pop hx hb hd (c1 _ h1) (kk _ hlen hl)
    · cases h
  | _ => cases hp
end PS
/-- a run of such instructions, jumps among them -/
def nxt (i : Instr) (n pc : Nat) : Nat := match i with
  | .goto off => ((pc : Int) + off).toNat
  | _ => pc + n
def decB (c : ByteArray) : List (Instr × Nat) → Nat → Bool
  | [], _ => true
  | (i, n) :: r, pc => decide (decode c pc = .ok (i, n)) && decB c r (nxt i n pc)
def isGo : Instr → Option Int
  | .goto off => some off
  | _ => none
def prun : List (Instr × Nat) → Nat → Loc_s → List MV → Option (Nat × Loc_s × List MV)
  | [], pc, ls, st => some (pc, ls, st)
  | (i, n) :: r, pc, ls, st => match isGo i with
    | some off => if n = 3 ∧ 0 ≤ (pc : Int) + off then prun r (((pc : Int) + off).toNat) ls st else none
    | none => match pstep i n ls st with
      | some q => prun r (pc + n) q.1 q.2
      | none => none
section PR
variable {l : Launch} {G : Gv} {Y : MI} {lim : Nat × Nat} {x : Option (Option Value × Mem)}  {M : Mem}
theorem s_goto {pc : Nat} {ls : Loc_s} {st : List MV} {off : Int} (hd : decode Y.2.1 pc = .ok (.goto off, 3)) (h0 : 0 ≤ (pc : Int) + off) (k : SimR l G Y lim x (((pc : Int) + off).toNat) ls st M) : SimR l G Y lim x pc ls st M := by
  intro res hres p e R s m args below meth c H locs cells slots Q lsA hC hR hS hN hlen hl hr
  exact lv_goto hC.1 hC.2.1 hd (by omega) (k res hres p e R s m args below meth c H locs cells slots Q lsA hC hR hS hN hlen hl hr)
theorem prun_ok : ∀ (b : List (Instr × Nat)) {pc pc' : Nat} {ls ls' : Loc_s} {st st' : List MV}, decB Y.2.1 b pc = true → prun b pc ls st = some (pc', ls', st') → SimR l G Y lim x pc' ls' st' M → SimR l G Y lim x pc ls st M
  | [], _, _, _, _, _, _, _, hp, k => by
    cases hp
    exact k
  | (i, n) :: r, pc, pc', ls, ls', st, st', hd, hp, k => by
    simp only [decB, Bool.and_eq_true, decide_eq_true_eq] at hd
    obtain ⟨hd1, hd2⟩ := hd
    simp only [prun] at hp
    cases hg : isGo i with
    | some off =>
      rw [hg] at hp
      obtain ⟨⟨rfl, h0⟩, hp2⟩ := ifs hp
      have hi : i = .goto off := by cases i <;> simp_all [isGo]
      subst hi
      exact s_goto hd1 h0 (prun_ok r hd2 hp2 k)
    | none =>
      rw [hg] at hp
      cases hq : pstep i n ls st with
      | none => rw [hq] at hp; cases hp
      | some q =>
        rw [hq] at hp
        have hn : nxt i n pc = pc + n := by cases i <;> simp_all [isGo, nxt]
        rw [hn] at hd2
        exact pstep_ok hd1 hq (prun_ok r hd2 hp k)
theorem s_run {α : Type} {e : Option α} {K : α → Option (Option Value × Mem)} {b : List (Instr × Nat)} {pc : Nat} (pc' : Nat) {ls : Loc_s} (ls' : Loc_s) {st : List MV} (st' : List MV) (hd : decB Y.2.1 b pc = true) (hp : prun b pc ls st = some (pc', ls', st')) (k : Sim l G Y lim e K pc' ls' st' M) : Sim l G Y lim e K pc ls st M := prun_ok b hd hp k
end PR
