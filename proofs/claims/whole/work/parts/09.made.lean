/-! what is made; copies of arrays; a method's contract out of its walk -/
section NW1
variable {l : Launch} {G : Gv} {Y : MI} {lim : Nat × Nat} {α : Type} {K : α → Option (Option Value × Mem)} {pc idx c : Nat} {ls : Loc_s} {st : List MV} {M : Mem} {T : u_T} {N : Nat} {C : String}
theorem Rep.push {H H1 : Heap} {x : Sh} {E : va_E} (hR : Rep G M H) (o1 : ∀ q, q < G.1 + M.2.2.2.length → H1[q]? = H[q]?) (hz : H.size = G.1 + M.2.2.2.length) (had : ∀ k, k < 999 → G.2.1 (k + 1) = G.1 + k) (hlt : M.2.2.2.length < 999) (hE : entS G (wN M x) (M.2.2.2.length + 1) x = E) (hat : va_at G.2.2.1 classes (G.1 + M.2.2.2.length, E) H1) : Rep G (wN M x) H1 := by
  unfold Rep
  rw [← wsOf_push, hE, had _ hlt]
  refine va_P.app (hR.kept fun k q hq => o1 q.1 (by rw [← hz]; exact (hR k q hq).lt)) (fun k q hq => ?_)
  have hk : k < 1 := (List.getElem?_eq_some_iff.mp hq).1
  rw [show k = 0 by omega] at hq
  cases hq
  exact hat
theorem va_S.push {A : Nat → Prop} {H0 H H1 : Heap} {locs : List Loc} (hS : va_S A H0 H locs) (z1 : H1.size = H.size + 1) (o1 : ∀ q, q < H.size → H1[q]? = H[q]?) : va_S A H0 H1 locs :=
  ⟨Nat.le_trans hS.1 (by omega), fun x h1 h2 => (o1 x (Nat.lt_of_lt_of_le h1 hS.1)).trans (hS.2.1 x h1 h2), hS.2.2⟩
theorem newS_le {x : Sh} {z : Nat × Mem} (h : newS lim M x = some z) : (M.2.2.2.length + 1 ≤ lim.1 ∧ ssum M.2.2.2 + ssz x ≤ lim.2) ∧ z = (M.2.2.2.length + 1, wN M x) := by
  obtain ⟨h1, h2⟩ := ifs h
  exact ⟨h1, (Option.some.inj h2).symm⟩
theorem wN_len {x : Sh} : (wN M x).2.2.2.length = M.2.2.2.length + 1 := by simp [wN]
theorem wN_sum {x : Sh} : ssum (wN M x).2.2.2 = ssum M.2.2.2 + ssz x := by simp [wN, ssum]
theorem s_new {f : Nat × Mem → Option α} (hc : classes[c]? = some (C, T, N)) (hcl : Cond.classLink Y.1.cls idx C ∈ GW) (hins : Cond.instantiable C N ∈ GW) (hini : Cond.initialized C ∈ GW) (hd : decode Y.2.1 pc = .ok (.new idx, 3)) (kk : ∀ n M', Sim l G Y lim (f (n, M')) K (pc + 3) ls (.inr (.inr n) :: st) M') :
    Sim l G Y lim ((newS lim M (.inl c)).bind f) K pc ls st M := by
  intro res hres
  obtain ⟨z, h1, h2⟩ := bind2 hres
  obtain ⟨⟨r1, r2⟩, rfl⟩ := newS_le h1
  intro p e R s m args below meth cc H locs cells slots Q lsA hC hR hS hN hlen hlv hr
  have kk := fun H1 locs1 cells1 slots1 hR1 hS1 hN1 => kk _ _ res h2 p e R s m args below meth cc H1 locs1 cells1 slots1 Q lsA hC hR1 hS1 hN1 hlen hlv hr
  obtain ⟨hx, hb, hml, hown, hnm, rfl, hCx⟩ := hC
  obtain ⟨hK, had, -, ⟨hw, -⟩, -⟩ := hCx
  refine w_sz (fun hz1 => ?_)
  have hsz := rep_sz hR had hN hz1 hS.1
  obtain ⟨hin, -, -, hN1⟩ := clsOK c C T N hc
  obtain ⟨ty, hty, hdv⟩ := clsDv c C T N hc
  have hKn := hK.1 c _ hc
  have hs2 : ssz (.inl c) = N := hN1
  rw [hs2] at r2
  obtain ⟨g1, g2⟩ := hN.room r1 r2
  refine W.newcK hx hb hown (hw _ hcl _) (hw _ hins _) (hw _ hini _) rfl hd g1 g2 hKn.2.1 hsz (fun H1 kC hkC e1 z1 o1 => ?_)
  have hfs : ∀ j, j < N → defaultValue (ty j) = vp_V (fv G (wN M (.inl c)) (M.2.2.2.length + 1) (fk.getD c [])) j := by
    intro j hj
    have h5 : (fv G (wN M (.inl c)) (M.2.2.2.length + 1) (fk.getD c [])).getD j .null = fval G (wN M (.inl c)) (M.2.2.2.length + 1) j ((fk.getD c []).getD j 0) := by
      rw [List.getD_eq_getElem?_getD, fv_at (by rw [hN1]; exact hj)]
      rfl
    refine (hdv j hj).trans (Eq.trans ?_ h5.symm)
    simp only [fval, dvk, wN, if_true]
    split
    · rfl
    · split <;> rfl
  have hR1 : Rep G (wN M (.inl c)) H1 := hR.push o1 hsz had hN.lt rfl ⟨_, hc, (u_born ty (fun w h => hw w h args) hin hKn hkC e1 hty).to hfs⟩
  have := kk H1 locs (cells + 1) (slots + N) hR1 (hS.push (by omega) (fun q hq => o1 q (by omega))) (hN.add r1 r2 wN_len (by rw [wN_sum, hs2]))
  have e2 : cv G (.inr (.inr (M.2.2.2.length + 1))) = .ref (G.1 + M.2.2.2.length) := by
    rw [rv_pos (by omega), had _ hN.lt]
  simp only [List.map_cons, e2] at this
  exact this
theorem s_newa {f : Nat × Mem → Option α} {t : Nat} {i : Int32} (aty' : ArrayType) (ht : t < 4) (hat : newarray.typeOf aty' = aty.getD t .int) (hcl : Cond.arrayClass (newarray.typeOf aty') ∈ GW) (hi : decide (¬ i < 0 ∧ i.toNatClampNeg = N ∧ N * componentBytes (newarray.typeOf aty') ≤ 536870912) = true) (hd : decode Y.2.1 pc = .ok (.newarray aty', 2)) (kk : ∀ n M', Sim l G Y lim (f (n, M')) K (pc + 2) ls (.inr (.inr n) :: st) M') :
    Sim l G Y lim ((newS lim M (.inr (t, N))).bind f) K pc ls (.inl i :: st) M := by
  intro res hres
  obtain ⟨z, h1, h2⟩ := bind2 hres
  obtain ⟨⟨r1, r2⟩, rfl⟩ := newS_le h1
  intro p e R s m args below meth cc H locs cells slots Q lsA hC hR hS hN hlen hlv hr
  have kk := fun H1 locs1 cells1 slots1 hR1 hS1 hN1 => kk _ _ res h2 p e R s m args below meth cc H1 locs1 cells1 slots1 Q lsA hC hR1 hS1 hN1 hlen hlv hr
  obtain ⟨hx, hb, hml, hown, hnm, rfl, hCx⟩ := hC
  obtain ⟨hK, had, -, ⟨hw, -⟩, -⟩ := hCx
  obtain ⟨i1, i2, i3⟩ := of_decide_eq_true hi
  refine w_sz (fun hz1 => ?_)
  have hsz := rep_sz hR had hN hz1 hS.1
  obtain ⟨g1, g2⟩ := hN.room r1 (show ssum M.2.2.2 + N ≤ lim.2 from r2)
  refine va_newaK (N := N) hx hb (hw _ hcl _) rfl hd rfl i1 i2 i3 g1 g2 hsz (fun H1 cA e1 z1 o1 hAr hNm => ?_)
  have hcA : cA = G.2.2.2.1 t := by
    have h5 := (hK.2 t _ (tys_at (by omega))).2
    rw [hat] at hNm
    match t, ht with
    | 0, _ => exact Option.some.inj (hNm.symm.trans h5)
    | 1, _ => exact Option.some.inj (hNm.symm.trans h5)
    | 2, _ => exact Option.some.inj (hNm.symm.trans h5)
    | 3, _ => exact Option.some.inj (hNm.symm.trans h5)
  subst hcA
  have hR1 : Rep G (wN M (.inr (t, N))) H1 := hR.push o1 hsz had hN.lt rfl (by
    show H1[G.1 + M.2.2.2.length]? = some (vp_cell _ _)
    rw [e1, hat]
    match t, ht with
    | 0, _ => simp [cont, wN, vp_cell, aty, defaultValue]
    | 1, _ => simp [cont, wN, vp_cell, aty, defaultValue]
    | 2, _ => simp [cont, wN, vp_cell, aty, defaultValue]
    | 3, _ => simp [cont, wN, vp_cell, aty, defaultValue])
  have := kk H1 locs (cells + 1) (slots + N) hR1 (hS.push (by omega) (fun q hq => o1 q (by omega))) (hN.add r1 (show ssum M.2.2.2 + N ≤ lim.2 from r2) wN_len wN_sum)
  have e2 : cv G (.inr (.inr (M.2.2.2.length + 1))) = .ref (G.1 + M.2.2.2.length) := by
    rw [rv_pos (by omega), had _ hN.lt]
  simp only [List.map_cons, e2] at this
  exact this
theorem s_anew {f : Nat × Mem → Option α} {t : Nat} {i : Int32} (ht : 3 < t ∧ t < 8) (hat : aty.getD t .int = .object C) (hao : C ∈ ["DeskRings$Told", "DeskRings$Office", "DeskRings$Day", "DeskRings$Log"]) (hcl : Cond.classLink Y.1.cls idx C ∈ GW) (hi : decide (¬ i < 0 ∧ i.toNatClampNeg = N ∧ N * 4 ≤ 536870912) = true) (hd : decode Y.2.1 pc = .ok (.anewarray idx, 3)) (kk : ∀ n M', Sim l G Y lim (f (n, M')) K (pc + 3) ls (.inr (.inr n) :: st) M') :
    Sim l G Y lim ((newS lim M (.inr (t, N))).bind f) K pc ls (.inl i :: st) M := by
  intro res hres
  obtain ⟨z, h1, h2⟩ := bind2 hres
  obtain ⟨⟨r1, r2⟩, rfl⟩ := newS_le h1
  intro p e R s m args below meth cc H locs cells slots Q lsA hC hR hS hN hlen hlv hr
  have kk := fun H1 locs1 cells1 slots1 hR1 hS1 hN1 => kk _ _ res h2 p e R s m args below meth cc H1 locs1 cells1 slots1 Q lsA hC hR1 hS1 hN1 hlen hlv hr
  obtain ⟨hx, hb, hml, hown, hnm, rfl, hCx⟩ := hC
  obtain ⟨hK, had, -, ⟨hw, -, hw3⟩, -⟩ := hCx
  obtain ⟨i1, i2, i3⟩ := of_decide_eq_true hi
  refine w_sz (fun hz1 => ?_)
  have hsz := rep_sz hR had hN hz1 hS.1
  obtain ⟨g1, g2⟩ := hN.room r1 (show ssum M.2.2.2 + N ≤ lim.2 from r2)
  subst i2
  refine W.anew hx hb hown (hw _ hcl _) (va_AO.use (hw3 _ hao)) rfl hd rfl i1 i3 g1 g2 (fun cA kA comp f1 f2 f3 f4 => ?_)
  generalize hH1 : H.push ({ cls := cA, slots := Array.replicate i.toNatClampNeg .null, vm := .none } : Cell) = H1
  have z1 : H1.size = H.size + 1 := by rw [← hH1, Array.size_push]
  have e1 : H1[H.size]? = some (arrV cA i.toNatClampNeg (fun _ => .null)) := by rw [← hH1, Array.getElem?_push_size, ← arrV_new]
  have o1 : ∀ q : Nat, q < H.size → H1[q]? = H[q]? := fun q hq => by rw [← hH1, Array.getElem?_push, if_neg (Nat.ne_of_lt hq)]
  have hcA : cA = G.2.2.2.1 t := by
    have h5 := (hK.2 t _ (tys_at ht.2)).2
    rw [hat] at h5
    obtain ⟨kA', comp', -, -, -, h6⟩ := h5
    exact Option.some.inj (f1.symm.trans h6)
  subst hcA
  have hR1 : Rep G (wN M (.inr (t, i.toNatClampNeg))) H1 := hR.push (by rw [← hsz]; exact o1) hsz had hN.lt rfl (by
    show H1[G.1 + M.2.2.2.length]? = some (vp_cell _ _)
    rw [← hsz, e1]
    have h7 : ¬ t < 3 := by omega
    have h8 : ¬ t = 3 := by omega
    simp [cont, wN, h7, h8, vp_cell, rof, va_rf])
  have := kk H1 locs (cells + 1) (slots + i.toNatClampNeg) hR1 (hS.push z1 o1) (hN.add r1 (show ssum M.2.2.2 + i.toNatClampNeg ≤ lim.2 from r2) wN_len wN_sum)
  have e2 : cv G (.inr (.inr (M.2.2.2.length + 1))) = .ref H.size := by
    rw [rv_pos (by omega), had _ hN.lt, hsz]
  simp only [List.map_cons, e2] at this
  exact this
/-- System.arraycopy of int (t = 0) or byte (t = 1) arrays -/
def wC (M : Mem) (n0 n1 sp dp k : Nat) : Mem := (fun a b => if a = n1 then va_cpy (M.1 n0) (M.1 n1) sp dp k b else M.1 a b, M.2)
def cpA (M : Mem) (t n0 : Nat) (sp : Int32) (n1 : Nat) (dp k : Int32) : Option Mem :=
  if (¬ sp < 0 ∧ ¬ dp < 0 ∧ ¬ k < 0) ∧ (0 < aln M t n0 ∧ 0 < aln M t n1) ∧ sp.toNatClampNeg + k.toNatClampNeg ≤ aln M t n0 ∧ dp.toNatClampNeg + k.toNatClampNeg ≤ aln M t n1 ∧ ∀ i, i < k.toNatClampNeg → fits (aty.getD t .int) (.int (M.1 n0 (sp.toNatClampNeg + i))) = true then some (wC M n0 n1 sp.toNatClampNeg dp.toNatClampNeg k.toNatClampNeg) else none
theorem s_copy {f : Mem → Option α} {t n0 n1 : Nat} {sp dp k : Int32} (ht : t < 3) (hl : Cond.methodLink Y.1.cls idx arraycopyName ∈ GW) (h1 : Cond.native arraycopyName ∈ GW ∧ Cond.static arraycopyName ∈ GW ∧ Cond.initialized "java/lang/System" ∈ GW) (hr : 1 ≤ Y.2.2.2.2.frames ∧ (st.map mcat).sum + (nativeFrameWords "java/lang/System" "arraycopy" 5 + 11) ≤ Y.2.2.2.2.locals) (hd : decode Y.2.1 pc = .ok (.invokestatic idx, 3)) (kk : ∀ M', Sim l G Y lim (f M') K (pc + 3) ls st M') :
    Sim l G Y lim ((cpA M t n0 sp n1 dp k).bind f) K pc ls (.inl k :: .inl dp :: .inr (.inr n1) :: .inl sp :: .inr (.inr n0) :: st) M := by
  intro res hres
  obtain ⟨M', h2, h3⟩ := bind2 hres
  obtain ⟨⟨⟨a1, a2, a3⟩, ⟨b1, b2⟩, c1, c2, c3⟩, h2⟩ := ifs h2; cases h2
  intro p e R s m args below meth cc H locs cells slots Q lsA hC hR hS hN hlen hlv hrr
  have kk := fun H1 locs1 hR1 hS1 => kk _ res h3 p e R s m args below meth cc H1 locs1 cells slots Q lsA hC hR1 hS1 (hN.same rfl) hlen hlv hrr
  obtain ⟨hx, hb, hml, hown, hnm, rfl, hCx⟩ := hC
  obtain ⟨hK, had, -, ⟨hw, -⟩, -⟩ := hCx
  have hs0 := aln_shp b1
  have hs1 := aln_shp b2
  show W p l e Y.2.2.2.2 s m args below meth cc H locs cells slots Q (F0 m pc lsA (.int k :: .int dp :: rv G n1 :: .int sp :: rv G n0 :: st.map (cv G)))
  rw [rv_ref (shp_lt hs0).1, rv_ref (shp_lt hs1).1]
  have hset : (wsOf G M).set (n1 - 1) (G.2.1 n1, .inl (G.2.2.2.1 t, aln M t n1, .inl (va_cpy (fun j => M.1 n0 j) (fun j => M.1 n1 j) sp.toNatClampNeg dp.toNatClampNeg k.toNatClampNeg))) = wsOf G (wC M n0 n1 sp.toNatClampNeg dp.toNatClampNeg k.toNatClampNeg) := wsOf_set hs1 rfl (by rw [ent_i ht]; congr 3; simp [wC]) (fun a y h => by
    cases y with
    | inl c => simp [entS, fv, fval, wC, h]
    | inr q => simp [entS, cont, wC, h])
  have e1 : ((st.map (cv G)).map fun v => v.category).sum = (st.map mcat).sum := by
    rw [List.map_map]
    have : ((fun v => v.category) ∘ cv G) = mcat := funext fun v => cv_cat G v
    rw [this]
  exact va_copyi (D := G.2.2.1) (ty := aty.getD t .int) hx hb (hml.trans hlv.1.symm) hown (hw _ hl _) (hw _ h1.1 _) (hw _ h1.2.1 _) (hw _ h1.2.2 _) hK hR (wsOf_D had hN.lt) hS (n0 - 1) (n1 - 1) t t ((wsOf_shp hs0).trans (by rw [ent_i ht])) ((wsOf_shp hs1).trans (by rw [ent_i ht])) (tys_at (by omega)) (tys_at (by omega)) (by match t, ht with
    | 0, _ => rfl
    | 1, _ => rfl
    | 2, _ => rfl) a1 a2 a3 c1 c2 c3 hr.1 (by rw [e1]; exact hr.2) hd (fun H1 locs1 hP1 hD1 hS1 => kk H1 locs1 (by unfold Rep; rw [← hset]; exact hP1) hS1)
/-- a method's contract -/
theorem met_of {vs : List MV} {M' : Mem} {r : Option Value} {X : Option (Option Value × Mem)} {ls0 : Loc_s} (hy : plainName Y.1.cls = true) (hls : ls0.length = Y.2.2.1) (hin : ∀ q ∈ asc G 0 ls0, q ∈ lv_args 0 (vs.map (cv G))) (hsl : (lg_sl (vs.map (cv G))).length ≤ Y.2.2.1) (hX : X = some (r, M')) (hex : (Y.2.2.2.2.cells = 0 ∧ Y.2.2.2.2.slots = 0) ∨ (M'.2.2.2.length = M.2.2.2.length + Y.2.2.2.2.cells ∧ ssum M'.2.2.2 = ssum M.2.2.2 + Y.2.2.2.2.slots))
    (hS : SimR l G Y (M.2.2.2.length + Y.2.2.2.2.cells, ssum M.2.2.2 + Y.2.2.2.2.slots) X 0 ls0 [] M) : MetS l G Y vs M r M' := by
  intro hlim
  refine Met.ofW (cc := Y.2.1) (maxL := Y.2.2.1) (ret := Y.2.2.2.1) hy rfl ?_
  intro p e s m args below meth c s₁ B hml hv
  obtain ⟨rfl, hCx, hR, hsz⟩ := hv
  have hr := B.returns
  have hlocks := B.notSynchronized
  have hl := lv_entry (vs.map (cv G)) (n := Y.2.2.1) hsl
  rw [lg_entry_eq]
  generalize (lg_sl (vs.map (cv G)) ++ List.replicate (Y.2.2.1 - (lg_sl (vs.map (cv G))).length) Slot.unset).toArray = lsA at hl ⊢
  have hL0 := hsz
  refine hS (r, M') hX p e _ s m _ below meth c s.heap [] 0 0 _ lsA ⟨B.exec, B.bytes, hml, findClass_of_methodNamed B.named, (name_of_methodNamed B.named B.method).1, rfl, hCx⟩ hR va_S.rf ⟨M.2.2.2.length, ssum M.2.2.2, hsz, by omega, by omega, Nat.le_refl _, Nat.le_refl _, by omega, by omega, hlim⟩ hls (lv_mono hl hin) ?_
  intro H' locs' cells' slots' lsA' pc' hd' hok hR' hS' hN'
  have hcs : cells' ≤ Y.2.2.2.2.cells ∧ slots' ≤ Y.2.2.2.2.slots ∧ M'.2.2.2.length = M.2.2.2.length + Y.2.2.2.2.cells ∧ ssum M'.2.2.2 = ssum M.2.2.2 + Y.2.2.2.2.slots := by
    obtain ⟨L0, S0, a1, a2, a3, a4, a5, a6, a7, a8⟩ := hN'
    dsimp only at a2 a3 a4 a5 a6 a7
    have : (headSpec [Cond.code Y.1 Y.2.1 Y.2.2.1 Y.2.2.2.1] Y.2.2.2.2).room.cells = Y.2.2.2.2.cells := rfl
    have : (headSpec [Cond.code Y.1 Y.2.1 Y.2.2.1 Y.2.2.2.1] Y.2.2.2.2).room.slots = Y.2.2.2.2.slots := rfl
    omega
  obtain ⟨hc1, hc2, hL1, hL2⟩ := hcs
  refine W.widen (k := Y.2.2.2.2.cells) (n := Y.2.2.2.2.slots) hc1 hc2 ?_
  have hq : ∀ t : State, t.heap = H' → s.WarmedH t.vm → QcS G r M' (M.2.2.2.length + Y.2.2.2.2.cells) (ssum M.2.2.2 + Y.2.2.2.2.slots) (vs.map (cv G)).toArray s (.returned r) t := fun t ht hW => ⟨rfl, by rw [ht]; exact hR', ⟨hL1, hL2⟩, hS'.F ht⟩
  have hr2 : meth.sig.returnType = Y.2.2.2.1 := hr
  dsimp only at hd' hok
  cases r with
  | none => exact W.vret B.exec B.bytes (hr2.trans hok) hq hS'.2.2 hd' hlocks
  | some v =>
    cases v with
    | int v =>
      obtain ⟨t, h1, h2⟩ := hok
      exact W.zret (ty := t) B.exec B.bytes (hr2.trans h1) h2 hq hS'.2.2 hd' hlocks
    | long v => exact W.lret B.exec B.bytes (hr2.trans hok) hq hS'.2.2 hd' hlocks
    | float v =>
      obtain ⟨h0, t, h1, h2⟩ := hok
      exact W.aret (rt := t) B.exec B.bytes (hr2.trans h1) h2 h0 hq hS'.2.2 hd' hlocks
    | double v =>
      obtain ⟨h0, t, h1, h2⟩ := hok
      exact W.aret (rt := t) B.exec B.bytes (hr2.trans h1) h2 h0 hq hS'.2.2 hd' hlocks
    | null =>
      obtain ⟨h0, t, h1, h2⟩ := hok
      exact W.aret (rt := t) B.exec B.bytes (hr2.trans h1) h2 h0 hq hS'.2.2 hd' hlocks
    | ref v =>
      obtain ⟨h0, t, h1, h2⟩ := hok
      exact W.aret (rt := t) B.exec B.bytes (hr2.trans h1) h2 h0 hq hS'.2.2 hd' hlocks
    | retAddr v =>
      obtain ⟨h0, t, h1, h2⟩ := hok
      exact W.aret (rt := t) B.exec B.bytes (hr2.trans h1) h2 h0 hq hS'.2.2 hd' hlocks
end NW1
section ZW
variable {l : Launch} {G : Gv} {Y : MI} {lim : Nat × Nat} {α : Type} {K : α → Option (Option Value × Mem)} {pc idx c : Nat} {ls : Loc_s} {st : List MV} {M : Mem} {T : u_T} {N : Nat} {C : String}
theorem s_newZ {f : Nat × Mem → Option α} (hc : classes[c]? = some (C, T, N)) (hcl : Cond.classLink Y.1.cls idx C ∈ GW) (hins : Cond.instantiable C N ∈ GW) (hini : Cond.initialized C ∈ GW) (hd : decode Y.2.1 pc = .ok (.new idx, 3)) (kk : ∀ z : Nat × Mem, Sim l G Y lim (f z) K (pc + 3) ls (.inr (.inr z.1) :: st) z.2) :
    Sim l G Y lim ((newS lim M (.inl c)).bind f) K pc ls st M := s_new hc hcl hins hini hd (fun n M' => kk (n, M'))
theorem s_newaZ {f : Nat × Mem → Option α} {t : Nat} {i : Int32} (aty' : ArrayType) (ht : t < 4) (hat : newarray.typeOf aty' = aty.getD t .int) (hcl : Cond.arrayClass (newarray.typeOf aty') ∈ GW) (hi : decide (¬ i < 0 ∧ i.toNatClampNeg = N ∧ N * componentBytes (newarray.typeOf aty') ≤ 536870912) = true) (hd : decode Y.2.1 pc = .ok (.newarray aty', 2)) (kk : ∀ z : Nat × Mem, Sim l G Y lim (f z) K (pc + 2) ls (.inr (.inr z.1) :: st) z.2) :
    Sim l G Y lim ((newS lim M (.inr (t, N))).bind f) K pc ls (.inl i :: st) M := s_newa aty' ht hat hcl hi hd (fun n M' => kk (n, M'))
theorem s_anewZ {f : Nat × Mem → Option α} {t : Nat} {i : Int32} (ht : 3 < t ∧ t < 8) (hat : aty.getD t .int = .object C) (hao : C ∈ ["DeskRings$Told", "DeskRings$Office", "DeskRings$Day", "DeskRings$Log"]) (hcl : Cond.classLink Y.1.cls idx C ∈ GW) (hi : decide (¬ i < 0 ∧ i.toNatClampNeg = N ∧ N * 4 ≤ 536870912) = true) (hd : decode Y.2.1 pc = .ok (.anewarray idx, 3)) (kk : ∀ z : Nat × Mem, Sim l G Y lim (f z) K (pc + 3) ls (.inr (.inr z.1) :: st) z.2) :
    Sim l G Y lim ((newS lim M (.inr (t, N))).bind f) K pc ls (.inl i :: st) M := s_anew ht hat hao hcl hi hd (fun n M' => kk (n, M'))
theorem s_bret {v : Int32} (hz : v = 0 ∨ v = 1) (hd : decode Y.2.1 pc = .ok (.ireturn, 1)) (hY : Y.2.2.2.1 = some .boolean) : SimR l G Y lim (some (some (.int v), M)) pc ls [.inl v] M := s_ret rfl rfl hd ⟨.boolean, hY, by rcases hz with rfl | rfl <;> rfl⟩
theorem s_zr {v : Int32} {f : Int32 → Option α} (h : (v = 0 ∨ v = 1) → Sim l G Y lim (f v) K pc ls st M) : Sim l G Y lim ((zr v).bind f) K pc ls st M := by
  intro res hres
  obtain ⟨w, h1, h2⟩ := bind2 hres
  obtain ⟨hz, h1⟩ := ifs h1; cases h1
  exact h hz res h2
theorem s_rt {f : Mem → Option α} (h : Sim l G Y lim (f M) K pc ls st M) : Sim l G Y lim ((rtS lim M).bind f) K pc ls st M := by
  intro res hres
  obtain ⟨w, h1, h2⟩ := bind2 hres
  obtain ⟨hz, h1⟩ := ifs h1; cases h1
  exact h res h2
theorem s_sc {f : Int32 → Option α} {i : Int32} (hd : decode Y.2.1 pc = .ok (.iaload, 1)) (kk : ∀ v, Sim l G Y lim (f v) K (pc + 1) ls (.inl v :: st) M) :
    Sim l G Y lim ((scI G.2.2.2.2 i).bind f) K pc ls (.inl i :: .inr (.inr 4000) :: st) M := by
  intro res hres
  obtain ⟨v, h1, h2⟩ := bind2 hres
  obtain ⟨hi, h1⟩ := ifs h1
  intro p e R s m args below meth cc H locs cells slots Q lsA hC hR hS hN hlen hl hr
  have kk := kk v res h2 p e R s m args below meth cc H locs cells slots Q lsA hC hR hS hN hlen hl hr
  obtain ⟨hx, hb, hml, hown, -, -, -, -, -, -, -, -, hT⟩ := hC
  show W p l e R s m args below meth cc H locs cells slots Q (F0 m pc lsA (.int i :: rv G 4000 :: st.map (cv G)))
  rw [rv_ref (by omega)]
  refine va_ti (v := .int v) hx hb hT hS (vin ⟨hi, (List.getElem?_eq_some_iff.mp h1).1⟩) ?_ hd kk
  show Value.int _ = _
  rw [List.getD_eq_getElem?_getD, h1]
  rfl
theorem s_scl {X : Option (Option Value × Mem)} {v : Int32} (hv : Int32.ofNat G.2.2.2.2.length = v) (hd : decode Y.2.1 pc = .ok (.arraylength, 1)) (kk : SimR l G Y lim X (pc + 1) ls (.inl v :: st) M) : SimR l G Y lim X pc ls (.inr (.inr 4000) :: st) M := by
  intro res hres p e R s m args below meth cc H locs cells slots Q lsA hC hR hS hN hlen hl hr
  have kk := kk res hres p e R s m args below meth cc H locs cells slots Q lsA hC hR hS hN hlen hl hr
  obtain ⟨hx, hb, hml, hown, -, -, -, -, -, -, -, -, hT⟩ := hC
  show W p l e R s m args below meth cc H locs cells slots Q (F0 m pc lsA (rv G 4000 :: st.map (cv G)))
  rw [rv_ref (by omega)]
  exact va_tlen hx hb hT hS hv hd kk
end ZW
