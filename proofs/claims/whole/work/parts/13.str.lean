/-! String constants: length and charAt, out of the JDK's own code -/
def Y_pci : MI := (⟨"jdk/internal/util/Preconditions", "checkIndex", "(IILjava/util/function/BiFunction;)I"⟩, prog_21_method_11_code, 3, some .int, { frames := 0, cells := 0, slots := 0, locals := 0 })
theorem qy_pci_c : Cond.code ⟨"jdk/internal/util/Preconditions", "checkIndex", "(IILjava/util/function/BiFunction;)I"⟩ prog_21_method_11_code 3 (some .int) ∈ GW := gw_of (gw_t (gw_3 (List.mem_of_getElem? (i := 117) (by decide +kernel)))) (by decide +kernel)
theorem qy_pci_i : Cond.initialized "jdk/internal/util/Preconditions" ∈ GW := gw_of (gw_t (gw_1 (List.mem_of_getElem? (i := 17) (by decide +kernel)))) (by decide +kernel)
theorem zk_pci : ZK Y_pci 3 := ⟨qy_pci_c, qy_pci_i, ⟨by decide, by decide⟩, by decide +kernel⟩
theorem qy_pci_s : Cond.static ⟨"jdk/internal/util/Preconditions", "checkIndex", "(IILjava/util/function/BiFunction;)I"⟩ ∈ GW := gw_of (gw_t (gw_3 (List.mem_of_getElem? (i := 116) (by decide +kernel)))) (by decide +kernel)
def Y_chk : MI := (⟨"java/lang/String", "checkIndex", "(II)V"⟩, prog_17_method_155_code, 2, none, { frames := 1, cells := 0, slots := 0, locals := 22 })
theorem qy_chk_c : Cond.code ⟨"java/lang/String", "checkIndex", "(II)V"⟩ prog_17_method_155_code 2 none ∈ GW := gw_of (gw_t (gw_3 (List.mem_of_getElem? (i := 112) (by decide +kernel)))) (by decide +kernel)
theorem qy_chk_i : Cond.initialized "java/lang/String" ∈ GW := gw_of (gw_t (gw_1 (List.mem_of_getElem? (i := 15) (by decide +kernel)))) (by decide +kernel)
theorem zk_chk : ZK Y_chk 2 := ⟨qy_chk_c, qy_chk_i, ⟨by decide, by decide⟩, by decide +kernel⟩
theorem qy_chk_s : Cond.static ⟨"java/lang/String", "checkIndex", "(II)V"⟩ ∈ GW := gw_of (gw_t (gw_3 (List.mem_of_getElem? (i := 111) (by decide +kernel)))) (by decide +kernel)
def Y_lca : MI := (⟨"java/lang/StringLatin1", "charAt", "([BI)C"⟩, prog_18_method_2_code, 2, some .char, { frames := 2, cells := 0, slots := 0, locals := 43 })
theorem qy_lca_c : Cond.code ⟨"java/lang/StringLatin1", "charAt", "([BI)C"⟩ prog_18_method_2_code 2 (some .char) ∈ GW := gw_of (gw_t (gw_3 (List.mem_of_getElem? (i := 109) (by decide +kernel)))) (by decide +kernel)
theorem qy_lca_i : Cond.initialized "java/lang/StringLatin1" ∈ GW := gw_of (gw_t (gw_1 (List.mem_of_getElem? (i := 16) (by decide +kernel)))) (by decide +kernel)
theorem zk_lca : ZK Y_lca 2 := ⟨qy_lca_c, qy_lca_i, ⟨by decide, by decide⟩, by decide +kernel⟩
theorem qy_lca_s : Cond.static ⟨"java/lang/StringLatin1", "charAt", "([BI)C"⟩ ∈ GW := gw_of (gw_t (gw_3 (List.mem_of_getElem? (i := 108) (by decide +kernel)))) (by decide +kernel)
def Y_lat : MI := (⟨"java/lang/String", "isLatin1", "()Z"⟩, prog_17_method_154_code, 1, some .boolean, { frames := 0, cells := 0, slots := 0, locals := 0 })
theorem qy_lat_c : Cond.code ⟨"java/lang/String", "isLatin1", "()Z"⟩ prog_17_method_154_code 1 (some .boolean) ∈ GW := gw_of (gw_t (gw_3 (List.mem_of_getElem? (i := 106) (by decide +kernel)))) (by decide +kernel)
theorem qy_lat_i : Cond.initialized "java/lang/String" ∈ GW := gw_of (gw_t (gw_1 (List.mem_of_getElem? (i := 15) (by decide +kernel)))) (by decide +kernel)
theorem zk_lat : ZK Y_lat 0 := ⟨qy_lat_c, qy_lat_i, ⟨by decide, by decide⟩, by decide +kernel⟩
theorem qy_lat_1 : Cond.instanceMethod ⟨"java/lang/String", "isLatin1", "()Z"⟩ ∈ GW := gw_of (gw_t (gw_3 (List.mem_of_getElem? (i := 104) (by decide +kernel)))) (by decide +kernel)
theorem qy_lat_2 : Cond.selects "java/lang/String" ⟨"java/lang/String", "isLatin1", "()Z"⟩ ⟨"java/lang/String", "isLatin1", "()Z"⟩ ∈ GW := gw_of (gw_t (gw_3 (List.mem_of_getElem? (i := 105) (by decide +kernel)))) (by decide +kernel)
theorem zi_lat : Cond.instanceMethod Y_lat.1 ∈ GW ∧ Cond.selects Y_lat.1.cls Y_lat.1 Y_lat.1 ∈ GW := ⟨qy_lat_1, qy_lat_2⟩
def Y_cod : MI := (⟨"java/lang/String", "coder", "()B"⟩, prog_17_method_152_code, 1, some .byte, { frames := 0, cells := 0, slots := 0, locals := 0 })
theorem qy_cod_c : Cond.code ⟨"java/lang/String", "coder", "()B"⟩ prog_17_method_152_code 1 (some .byte) ∈ GW := gw_of (gw_t (gw_3 (List.mem_of_getElem? (i := 96) (by decide +kernel)))) (by decide +kernel)
theorem qy_cod_i : Cond.initialized "java/lang/String" ∈ GW := gw_of (gw_t (gw_1 (List.mem_of_getElem? (i := 15) (by decide +kernel)))) (by decide +kernel)
theorem zk_cod : ZK Y_cod 0 := ⟨qy_cod_c, qy_cod_i, ⟨by decide, by decide⟩, by decide +kernel⟩
theorem qy_cod_1 : Cond.instanceMethod ⟨"java/lang/String", "coder", "()B"⟩ ∈ GW := gw_of (gw_t (gw_3 (List.mem_of_getElem? (i := 94) (by decide +kernel)))) (by decide +kernel)
theorem qy_cod_2 : Cond.selects "java/lang/String" ⟨"java/lang/String", "coder", "()B"⟩ ⟨"java/lang/String", "coder", "()B"⟩ ∈ GW := gw_of (gw_t (gw_3 (List.mem_of_getElem? (i := 95) (by decide +kernel)))) (by decide +kernel)
theorem zi_cod : Cond.instanceMethod Y_cod.1 ∈ GW ∧ Cond.selects Y_cod.1.cls Y_cod.1 Y_cod.1 ∈ GW := ⟨qy_cod_1, qy_cod_2⟩
def Y_sln : MI := (⟨"java/lang/String", "length", "()I"⟩, prog_17_method_54_code, 1, some .int, { frames := 1, cells := 0, slots := 0, locals := 20 })
theorem qy_sln_c : Cond.code ⟨"java/lang/String", "length", "()I"⟩ prog_17_method_54_code 1 (some .int) ∈ GW := gw_of (gw_t (gw_3 (List.mem_of_getElem? (i := 92) (by decide +kernel)))) (by decide +kernel)
theorem qy_sln_i : Cond.initialized "java/lang/String" ∈ GW := gw_of (gw_t (gw_1 (List.mem_of_getElem? (i := 15) (by decide +kernel)))) (by decide +kernel)
theorem zk_sln : ZK Y_sln 0 := ⟨qy_sln_c, qy_sln_i, ⟨by decide, by decide⟩, by decide +kernel⟩
theorem qy_sln_1 : Cond.instanceMethod ⟨"java/lang/String", "length", "()I"⟩ ∈ GW := gw_of (gw_t (gw_3 (List.mem_of_getElem? (i := 90) (by decide +kernel)))) (by decide +kernel)
theorem qy_sln_2 : Cond.selects "java/lang/String" ⟨"java/lang/String", "length", "()I"⟩ ⟨"java/lang/String", "length", "()I"⟩ ∈ GW := gw_of (gw_t (gw_3 (List.mem_of_getElem? (i := 91) (by decide +kernel)))) (by decide +kernel)
theorem zi_sln : Cond.instanceMethod Y_sln.1 ∈ GW ∧ Cond.selects Y_sln.1.cls Y_sln.1 Y_sln.1 ∈ GW := ⟨qy_sln_1, qy_sln_2⟩
def Y_sca : MI := (⟨"java/lang/String", "charAt", "(I)C"⟩, prog_17_method_56_code, 2, some .char, { frames := 3, cells := 0, slots := 0, locals := 64 })
theorem qy_sca_c : Cond.code ⟨"java/lang/String", "charAt", "(I)C"⟩ prog_17_method_56_code 2 (some .char) ∈ GW := gw_of (gw_t (gw_3 (List.mem_of_getElem? (i := 102) (by decide +kernel)))) (by decide +kernel)
theorem qy_sca_i : Cond.initialized "java/lang/String" ∈ GW := gw_of (gw_t (gw_1 (List.mem_of_getElem? (i := 15) (by decide +kernel)))) (by decide +kernel)
theorem zk_sca : ZK Y_sca 1 := ⟨qy_sca_c, qy_sca_i, ⟨by decide, by decide⟩, by decide +kernel⟩
theorem qy_sca_1 : Cond.instanceMethod ⟨"java/lang/String", "charAt", "(I)C"⟩ ∈ GW := gw_of (gw_t (gw_3 (List.mem_of_getElem? (i := 100) (by decide +kernel)))) (by decide +kernel)
theorem qy_sca_2 : Cond.selects "java/lang/String" ⟨"java/lang/String", "charAt", "(I)C"⟩ ⟨"java/lang/String", "charAt", "(I)C"⟩ ∈ GW := gw_of (gw_t (gw_3 (List.mem_of_getElem? (i := 101) (by decide +kernel)))) (by decide +kernel)
theorem zi_sca : Cond.instanceMethod Y_sca.1 ∈ GW ∧ Cond.selects Y_sca.1.cls Y_sca.1 Y_sca.1 ∈ GW := ⟨qy_sca_1, qy_sca_2⟩
theorem ql_335 : Cond.methodLink "java/lang/String" 335 ⟨"java/lang/String", "coder", "()B"⟩ ∈ GW := gw_of (gw_t (gw_3 (List.mem_of_getElem? (i := 93) (by decide +kernel)))) (by decide +kernel)
theorem ql_492 : Cond.methodLink "java/lang/String" 492 ⟨"java/lang/String", "isLatin1", "()Z"⟩ ∈ GW := gw_of (gw_t (gw_3 (List.mem_of_getElem? (i := 103) (by decide +kernel)))) (by decide +kernel)
theorem ql_495 : Cond.methodLink "java/lang/String" 495 ⟨"java/lang/StringLatin1", "charAt", "([BI)C"⟩ ∈ GW := gw_of (gw_t (gw_3 (List.mem_of_getElem? (i := 107) (by decide +kernel)))) (by decide +kernel)
theorem ql_9 : Cond.methodLink "java/lang/StringLatin1" 9 ⟨"java/lang/String", "checkIndex", "(II)V"⟩ ∈ GW := gw_of (gw_t (gw_3 (List.mem_of_getElem? (i := 110) (by decide +kernel)))) (by decide +kernel)
theorem ql_1059 : Cond.methodLink "java/lang/String" 1059 ⟨"jdk/internal/util/Preconditions", "checkIndex", "(IILjava/util/function/BiFunction;)I"⟩ ∈ GW := gw_of (gw_t (gw_3 (List.mem_of_getElem? (i := 115) (by decide +kernel)))) (by decide +kernel)
theorem ql_f38 : Cond.fieldLink "java/lang/String" 38 "java/lang/String" "COMPACT_STRINGS" "Z" ∈ GW := gw_of (gw_t (gw_3 (List.mem_of_getElem? (i := 97) (by decide +kernel)))) (by decide +kernel)
theorem ql_f1053 : Cond.fieldLink "java/lang/String" 1053 "jdk/internal/util/Preconditions" "SIOOBE_FORMATTER" "Ljava/util/function/BiFunction;" ∈ GW := gw_of (gw_t (gw_3 (List.mem_of_getElem? (i := 113) (by decide +kernel)))) (by decide +kernel)
theorem ql_f9 : Cond.fieldLink "java/lang/String" 9 "java/lang/String" "value" "[B" ∈ GW := gw_of (gw_t (gw_9 (List.mem_of_getElem? (i := 19) (by decide +kernel)))) (by decide +kernel)
theorem ql_f15 : Cond.fieldLink "java/lang/String" 15 "java/lang/String" "coder" "B" ∈ GW := gw_of (gw_t (gw_9 (List.mem_of_getElem? (i := 20) (by decide +kernel)))) (by decide +kernel)
def strLen (n : Nat) : Option Int32 := if 2000 ≤ n ∧ n < 2015 then some (Int32.ofNat (stBy.getD (n - 2000) []).length) else none
def strAt (n : Nat) (i : Int32) : Option Int32 := if (2000 ≤ n ∧ n < 2015) ∧ ¬ i < 0 then (stBy.getD (n - 2000) [])[i.toNatClampNeg]? else none
/-- the contract of a member of a class that has natives -/
theorem met_ofF {l : Launch} {G : Gv} {Y : MI} {vs : List MV} {M : Mem} {r : Option Value} {X : Option (Option Value × Mem)} {ls0 : Loc_s} (hy : plainFor Y.1 = true) (hls : ls0.length = Y.2.2.1) (hin : ∀ q ∈ asc G 0 ls0, q ∈ lv_args 0 (vs.map (cv G))) (hsl : (lg_sl (vs.map (cv G))).length ≤ Y.2.2.1) (hX : X = some (r, M)) (h00 : Y.2.2.2.2.cells = 0 ∧ Y.2.2.2.2.slots = 0)
    (hS : ∀ lim, SimR l G Y lim X 0 ls0 [] M) : MetS l G Y vs M r M := by
  intro hlim
  refine va_MetF (cc := Y.2.1) (maxL := Y.2.2.1) (ret := Y.2.2.2.1) hy rfl ?_
  intro p e s m args below meth c s₁ B hml hv
  obtain ⟨rfl, hCx, hR, hsz⟩ := hv
  have hr := B.returns
  have hlocks := B.notSynchronized
  have hl := lv_entry (vs.map (cv G)) (n := Y.2.2.1) hsl
  rw [lg_entry_eq]
  generalize (lg_sl (vs.map (cv G)) ++ List.replicate (Y.2.2.1 - (lg_sl (vs.map (cv G))).length) Slot.unset).toArray = lsA at hl ⊢
  refine hS (M.2.2.2.length, ssum M.2.2.2) (r, M) hX p e _ s m _ below meth c s.heap [] 0 0 _ lsA ⟨B.exec, B.bytes, hml, findClass_of_methodNamed B.named, (name_of_methodNamed B.named B.method).1, rfl, hCx⟩ hR va_S.rf ⟨M.2.2.2.length, ssum M.2.2.2, hsz, by omega, by omega, Nat.le_add_right _ _, Nat.le_add_right _ _, by omega, by omega, by show M.2.2.2.length < 999; omega⟩ hls (lv_mono hl hin) ?_
  intro H' locs' cells' slots' lsA' pc' hd' hok hR' hS' hN'
  have hcs : cells' = Y.2.2.2.2.cells ∧ slots' = Y.2.2.2.2.slots := by
    obtain ⟨L0, S0, a1, a2, a3, a4, a5, a6, a7, a8⟩ := hN'
    dsimp only at a2 a3 a4 a5 a6 a7
    have e1 : (headSpec [Cond.code Y.1 Y.2.1 Y.2.2.1 Y.2.2.2.1] Y.2.2.2.2).room.cells = Y.2.2.2.2.cells := rfl
    have e2 : (headSpec [Cond.code Y.1 Y.2.1 Y.2.2.1 Y.2.2.2.1] Y.2.2.2.2).room.slots = Y.2.2.2.2.slots := rfl
    omega
  obtain ⟨rfl, rfl⟩ := hcs
  have hq : ∀ t : State, t.heap = H' → s.WarmedH t.vm → QcS G r M (M.2.2.2.length + Y.2.2.2.2.cells) (ssum M.2.2.2 + Y.2.2.2.2.slots) (vs.map (cv G)).toArray s (.returned r) t := fun t ht hW => ⟨rfl, by rw [ht]; exact hR', ⟨by omega, by omega⟩, hS'.F ht⟩
  have hr2 : meth.sig.returnType = Y.2.2.2.1 := hr
  dsimp only at hd' hok
  cases r with
  | none => exact W.vret B.exec B.bytes (hr2.trans hok) hq hS'.2.2 hd' hlocks
  | some v =>
    cases v with
    | int v =>
      obtain ⟨t, h1, h2⟩ := hok
      exact W.zret (ty := t) B.exec B.bytes (hr2.trans h1) h2 hq hS'.2.2 hd' hlocks
    | long v => exact W.lret B.exec B.bytes (hr2.trans hok) hq hS'.2.2 hd' hlocks
    | float v => obtain ⟨h0, t, h1, h2⟩ := hok; exact W.aret (rt := t) B.exec B.bytes (hr2.trans h1) h2 h0 hq hS'.2.2 hd' hlocks
    | double v => obtain ⟨h0, t, h1, h2⟩ := hok; exact W.aret (rt := t) B.exec B.bytes (hr2.trans h1) h2 h0 hq hS'.2.2 hd' hlocks
    | null => obtain ⟨h0, t, h1, h2⟩ := hok; exact W.aret (rt := t) B.exec B.bytes (hr2.trans h1) h2 h0 hq hS'.2.2 hd' hlocks
    | ref v => obtain ⟨h0, t, h1, h2⟩ := hok; exact W.aret (rt := t) B.exec B.bytes (hr2.trans h1) h2 h0 hq hS'.2.2 hd' hlocks
    | retAddr v => obtain ⟨h0, t, h1, h2⟩ := hok; exact W.aret (rt := t) B.exec B.bytes (hr2.trans h1) h2 h0 hq hS'.2.2 hd' hlocks
section SR
variable {l : Launch} {G : Gv} {Y Z : MI} {lim : Nat × Nat} {α γ : Type} {K : α → Option (Option Value × Mem)} {X : Option (Option Value × Mem)} {pc n idx nn : Nat} {ls : Loc_s} {st st0 vs : List MV} {M : Mem}
theorem isStr (h : 2000 ≤ n ∧ n < 2015) : n - 2000 < 15 ∧ 2000 + (n - 2000) = n ∧ 3000 + (n - 2000) = n + 1000 ∧ 0 < n ∧ 0 < n + 1000 := by omega
theorem r_sval (hn : 2000 ≤ n ∧ n < 2015) (hl : Cond.fieldLink Y.1.cls idx "java/lang/String" "value" "[B" ∈ GW) (hd : decode Y.2.1 pc = .ok (.getfield idx, 3)) (k : SimR l G Y lim X (pc + 3) ls (.inr (.inr (n + 1000)) :: st) M) : SimR l G Y lim X pc ls (.inr (.inr n) :: st) M := by
  intro res hres p e R s m args below meth c H locs cells slots Q lsA hC hR hS hN hlen hlv hr
  have k := k res hres p e R s m args below meth c H locs cells slots Q lsA hC hR hS hN hlen hlv hr
  obtain ⟨hx, hb, hml, hown, hnm, rfl, hCx⟩ := hC
  obtain ⟨i1, i2, i3, i4, i5⟩ := isStr hn
  have hE := (hCx.2.2.2.2.2.1.1.1 _ i1).2.2.1
  simp only [i2, i3] at hE
  have k : W p l e Y.2.2.2.2 s m args below meth c H locs cells slots Q (F0 m (pc + 3) lsA (rv G (n + 1000) :: st.map (cv G))) := k
  show W p l e Y.2.2.2.2 s m args below meth c H locs cells slots Q (F0 m pc lsA (rv G n :: st.map (cv G)))
  rw [rv_ref i5] at k
  rw [rv_ref i4]
  exact vk_getf hx hb hE hS hown (hCx.2.2.2.1.1 _ hl _) (fun _ h9 => h9) hd k
theorem r_scod (hn : 2000 ≤ n ∧ n < 2015) (hl : Cond.fieldLink Y.1.cls idx "java/lang/String" "coder" "B" ∈ GW) (hd : decode Y.2.1 pc = .ok (.getfield idx, 3)) (k : SimR l G Y lim X (pc + 3) ls (.inl 0 :: st) M) : SimR l G Y lim X pc ls (.inr (.inr n) :: st) M := by
  intro res hres p e R s m args below meth c H locs cells slots Q lsA hC hR hS hN hlen hlv hr
  have k := k res hres p e R s m args below meth c H locs cells slots Q lsA hC hR hS hN hlen hlv hr
  obtain ⟨hx, hb, hml, hown, hnm, rfl, hCx⟩ := hC
  obtain ⟨i1, i2, i3, i4, i5⟩ := isStr hn
  have hE := (hCx.2.2.2.2.2.1.1.1 _ i1).2.1
  simp only [i2, i3] at hE
  show W p l e Y.2.2.2.2 s m args below meth c H locs cells slots Q (F0 m pc lsA (rv G n :: st.map (cv G)))
  rw [rv_ref i4]
  exact vk_getf hx hb hE hS hown (hCx.2.2.2.1.1 _ hl _) (fun _ h9 => h9) hd k
theorem r_scomp (hl : Cond.fieldLink Y.1.cls idx "java/lang/String" "COMPACT_STRINGS" "Z" ∈ GW) (hd : decode Y.2.1 pc = .ok (.getstatic idx, 3)) (k : SimR l G Y lim X (pc + 3) ls (.inl 1 :: st) M) : SimR l G Y lim X pc ls st M := by
  intro res hres p e R s m args below meth c H locs cells slots Q lsA hC hR hS hN hlen hlv hr
  have k := k res hres p e R s m args below meth c H locs cells slots Q lsA hC hR hS hN hlen hlv hr
  obtain ⟨hx, hb, hml, hown, hnm, rfl, hCx⟩ := hC
  exact va_gets hx hb hCx.2.2.2.2.2.1.2.2.1 hS hown (hCx.2.2.2.1.1 _ hl _) (fun _ h9 => h9) hd k
theorem r_slen {v : Int32} (hn : 2000 ≤ n ∧ n < 2015) (hv : Int32.ofNat (stBy.getD (n - 2000) []).length = v) (hd : decode Y.2.1 pc = .ok (.arraylength, 1)) (k : SimR l G Y lim X (pc + 1) ls (.inl v :: st) M) : SimR l G Y lim X pc ls (.inr (.inr (n + 1000)) :: st) M := by
  intro res hres p e R s m args below meth c H locs cells slots Q lsA hC hR hS hN hlen hlv hr
  have k := k res hres p e R s m args below meth c H locs cells slots Q lsA hC hR hS hN hlen hlv hr
  obtain ⟨hx, hb, hml, hown, hnm, rfl, hCx⟩ := hC
  obtain ⟨i1, i2, i3, i4, i5⟩ := isStr hn
  have hE := (hCx.2.2.2.2.2.1.1.1 _ i1).2.2.2
  simp only [i2, i3] at hE
  show W p l e Y.2.2.2.2 s m args below meth c H locs cells slots Q (F0 m pc lsA (rv G (n + 1000) :: st.map (cv G)))
  rw [rv_ref i5]
  have e1 : (stBy.map List.length).getD (n - 2000) 0 = (stBy.getD (n - 2000) []).length := by
    have : ∀ j, j < 15 → (stBy.map List.length).getD j 0 = (stBy.getD j []).length := by decide +kernel
    exact this _ i1
  rw [e1] at hE
  exact va_tlen hx hb hE hS hv hd k
theorem r_sbyte {v i : Int32} (hn : 2000 ≤ n ∧ n < 2015) (hi : ¬ i < 0) (hv : (stBy.getD (n - 2000) [])[i.toNatClampNeg]? = some v) (hd : decode Y.2.1 pc = .ok (.baload, 1)) (k : SimR l G Y lim X (pc + 1) ls (.inl v :: st) M) : SimR l G Y lim X pc ls (.inl i :: .inr (.inr (n + 1000)) :: st) M := by
  intro res hres p e R s m args below meth c H locs cells slots Q lsA hC hR hS hN hlen hlv hr
  have k := k res hres p e R s m args below meth c H locs cells slots Q lsA hC hR hS hN hlen hlv hr
  obtain ⟨hx, hb, hml, hown, hnm, rfl, hCx⟩ := hC
  obtain ⟨i1, i2, i3, i4, i5⟩ := isStr hn
  have hE := (hCx.2.2.2.2.2.1.1.1 _ i1).2.2.2
  simp only [i2, i3] at hE
  show W p l e Y.2.2.2.2 s m args below meth c H locs cells slots Q (F0 m pc lsA (.int i :: rv G (n + 1000) :: st.map (cv G)))
  rw [rv_ref i5]
  have e1 : (stBy.map List.length).getD (n - 2000) 0 = (stBy.getD (n - 2000) []).length := by
    have : ∀ j, j < 15 → (stBy.map List.length).getD j 0 = (stBy.getD j []).length := by decide +kernel
    exact this _ i1
  rw [e1] at hE
  refine va_tb (v := .int v) hx hb hE hS (vin ⟨hi, (List.getElem?_eq_some_iff.mp hv).1⟩) ?_ hd k
  show Value.int _ = _
  rw [List.getD_eq_getElem?_getD, hv]
  rfl
/-- a call on a String constant -/
theorem s_cVr {fz : Option γ} {rO : γ → Option MV} {f : γ → Option α} (hn2 : 2000 ≤ n ∧ n < 2015) (hcls : Z.1.cls = "java/lang/String") (hZ : ZK Z nn) (hZ2 : Cond.instanceMethod Z.1 ∈ GW ∧ Cond.selects Z.1.cls Z.1 Z.1 ∈ GW) (hl : Cond.methodLink Y.1.cls idx Z.1 ∈ GW) (hRm : RoomOK Y Z) (h00 : Z.2.2.2.2.cells = 0 ∧ Z.2.2.2.2.slots = 0) (hn : vs.length = nn) (hst : st0 = vs.reverse ++ .inr (.inr n) :: st) (hcat : (st.map mcat).sum ≤ 8) (hd : decode Y.2.1 pc = .ok (.invokevirtual idx, 3))
    (hz : ∀ z, fz = some z → MetS l G Z (.inr (.inr n) :: vs) M ((rO z).map (cv G)) M) (kk : ∀ z, fz = some z → Sim l G Y lim (f z) K (pc + 3) ls ((rO z).toList ++ st) M) : Sim l G Y lim (fz.bind f) K pc ls st0 M := by
  intro res hres
  obtain ⟨z, h1, h2⟩ := bind2 hres
  intro p e R s m args below meth cc H locs cells slots Q lsA hC hR hS hN hlen hlv hr
  have kk := fun H1 locs1 cells1 slots1 hR1 hS1 hN1 => kk z h1 res h2 p e R s m args below meth cc H1 locs1 cells1 slots1 Q lsA hC hR1 hS1 hN1 hlen hlv hr
  obtain ⟨hx, hb, hml, hown, hnm, rfl, hCx⟩ := hC
  have hw := hCx.2.2.2.1.1
  refine w_sz (fun hz1 => ?_)
  have hsz := rep_sz hR hCx.2.1 hN hz1 hS.1
  obtain ⟨l1, l2, l3⟩ := hN.bnd
  obtain ⟨r1, r2⟩ : M.2.2.2.length + Z.2.2.2.2.cells ≤ lim.1 ∧ ssum M.2.2.2 + Z.2.2.2.2.slots ≤ lim.2 := by rw [h00.1, h00.2]; exact ⟨l1, l2⟩
  have hM := hz z h1 (by omega)
  subst hst
  obtain ⟨i1, i2, i3, h0, i5⟩ := isStr hn2
  obtain ⟨q1, q2⟩ := pcS_pre (vs := .inr (.inr n) :: vs) hCx hR hS hsz
  have hrec := vk_recv (i := n - 2000) hCx.2.2.2.2.2.1.1 i1 hS
  simp only [i2] at hrec
  have hpre : PreV s H Z.1.cls (G.2.1 n) (PcS G (.inr (.inr n) :: vs) M) (vs.map (cv G)) := ⟨q1, by rw [hcls]; exact hrec, fun U hU hW => by
    have := q2 U hU hW
    simp only [List.map_cons, rv_pos h0] at this
    exact this⟩
  refine w_call (va_runV (g := F0 m pc lsA (List.map (cv G) (vs.reverse ++ .inr (.inr n) :: st))) (rest := st.map (cv G)) ⟨hx, hb, hml, hown, fun w h => hw w h _⟩ hM ⟨callB_of2 hZ hl hRm hw, hw _ hZ2.1 _, hw _ hZ2.2 _⟩ hpre rfl (by simpa using hn) hlv.1 (by simp [rv_pos h0]) (lv_room (cl_cat hcat)) hd (hN.room r1 r2)) hS (fun H1 locs1 hR1 e1 e2 hS1 => ?_)
  have := kk H1 locs1 _ _ hR1 hS1 (hN.add r1 r2 e1 e2)
  cases hrz : rO z <;> rw [hrz] at this <;> exact this
/-! the two checks -/
def QcH (r : Option Value) : Array Value → State → Outcome → State → Prop := fun _ st o t => o = .returned r ∧ t.heap = st.heap
theorem m_pci {i n : Int32} {v : Value} (hv : v = .null ∨ ∃ a, v = .ref a) (h0 : ¬ i < 0) (h1 : i < n) : Met l Y_pci.1 [Cond.code Y_pci.1 Y_pci.2.1 3 (some .int)] Y_pci.2.2.2.2 (va_Pc [.int i, .int n, v] (fun _ => True)) (QcH (some (.int i))) 0 0 (fun _ => False) := by
  have hc : v.category = 1 := by rcases hv with rfl | ⟨a, rfl⟩ <;> rfl
  refine va_MetF (cc := prog_21_method_11_code) (maxL := 3) (ret := some .int) (by decide +kernel) rfl ?_
  intro p e s m args below meth c s₁ B hml hvv
  obtain ⟨rfl, -⟩ := hvv
  have hx := B.exec
  have hb := B.bytes
  have hlocks := B.notSynchronized
  have hl := lv_entry ([.int i, .int n, v]) (n := 3) (by rcases hv with rfl | ⟨a, rfl⟩ <;> exact Nat.le_of_ble_eq_true rfl)
  rw [lg_entry_eq]
  generalize (lg_sl ([.int i, .int n, v]) ++ List.replicate (3 - (lg_sl ([.int i, .int n, v])).length) Slot.unset).toArray = ls at hl ⊢
  have hl : lv_has ls 3 [(0, .int i), (1, .int n), (2, v)] := hl
  refine lv_iload_n (k := 0) (i := 0) (x := i) hx hb (by decide +kernel) rfl (lv_at hl 0 rfl) ?_
  refine lv_if_lt (off := 8) (tgt := 9) hx hb (by decide +kernel) (by decide) (fun q => absurd q h0) (fun _ => ?_)
  refine lv_iload_n (k := 0) (i := 0) (x := i) hx hb (by decide +kernel) rfl (lv_at hl 0 rfl) ?_
  refine lv_iload_n (k := 1) (i := 1) (x := n) hx hb (by decide +kernel) rfl (lv_at hl 1 rfl) ?_
  refine lv_icmp_lt (off := 10) (tgt := 16) hx hb (by decide +kernel) (by decide) (fun _ => ?_) (fun q => absurd h1 q)
  refine lv_iload_n (k := 0) (i := 0) (x := i) hx hb (by decide +kernel) rfl (lv_at hl 0 rfl) ?_
  exact W.iret hx hb B.returns (fun t ht hW => ⟨rfl, ht⟩) (fun q hq => by cases hq) (by decide +kernel) hlocks
theorem w_callH {p : Program} {e : Env} {R : Room} {s : State} {m : MethodId} {args : Array Value} {below : List Frame} {meth : Method} {c : Code} {H : Heap} {locs : List Loc} {cells slots : Nat} {Q : State → Prop} {pc : Nat} {ls : Array Slot} {rest st0 : List Value} {r : Option Value} {a : Array Value} (hr : va_Run p l e R s m args below meth c H locs cells slots 0 0 (F0 m pc ls st0) rest (QcH r a) (fun _ => False))
    (kk : W p l e R s m args below meth c H locs cells slots Q (F0 m (pc + 3) ls (r.toList ++ rest))) : W p l e R s m args below meth c H locs cells slots Q (F0 m pc ls st0) := by
  intro T hT X
  obtain ⟨v, st₀, t, T', L, h0, X', hL, e1, e2, ⟨hv, hp⟩, st⟩ := hr T hT X
  cases hv
  have hLn : L = [] := by
    cases L with
    | nil => rfl
    | cons q r => exact absurd (hL q List.mem_cons_self) id
  subst hLn
  rw [List.append_nil] at X'
  obtain ⟨t2, a1, b1⟩ := kk T' (by rw [e1, hp, h0]) X'
  exact ⟨t2, st t2 a1, b1⟩
theorem m_chk {i n : Int32} (h0 : ¬ i < 0) (h1 : i < n) : Met l Y_chk.1 [Cond.code Y_chk.1 Y_chk.2.1 2 none] Y_chk.2.2.2.2 (va_Pc [.int i, .int n] (fun U => Cx G U)) (QcH none) 0 0 (fun _ => False) := by
  refine va_MetF (cc := prog_17_method_155_code) (maxL := 2) (ret := none) (by decide +kernel) rfl ?_
  intro p e s m args below meth c s₁ B hml hvv
  obtain ⟨rfl, hCx⟩ := hvv
  have hx := B.exec
  have hb := B.bytes
  have hlocks := B.notSynchronized
  have hown : s.vm.findClass "java/lang/String" = some m.cls := findClass_of_methodNamed B.named
  have hw := hCx.2.2.2.1.1
  have hl := lv_entry ([.int i, .int n]) (n := 2) (Nat.le_of_ble_eq_true rfl)
  rw [lg_entry_eq]
  generalize (lg_sl ([.int i, .int n]) ++ List.replicate (2 - (lg_sl ([.int i, .int n])).length) Slot.unset).toArray = ls at hl ⊢
  have hl : lv_has ls 2 [(0, .int i), (1, .int n)] := hl
  refine lv_iload_n (k := 0) (i := 0) (x := i) hx hb (by decide +kernel) rfl (lv_at hl 0 rfl) ?_
  refine lv_iload_n (k := 1) (i := 1) (x := n) hx hb (by decide +kernel) rfl (lv_at hl 1 rfl) ?_
  have go : ∀ v : Value, (v = .null ∨ ∃ a, v = .ref a) → va_Z "jdk/internal/util/Preconditions" "SIOOBE_FORMATTER" "Ljava/util/function/BiFunction;" v (A0 G) s s.heap → W p l e (headSpec [Cond.code Y_chk.1 Y_chk.2.1 2 none] Y_chk.2.2.2.2).room s m ([.int i, .int n] : List Value).toArray below meth c s.heap [] 0 0 (MQ below (QcH none) ([.int i, .int n] : List Value).toArray s 0 0 (fun _ => False)) (F0 m 2 ls [.int n, .int i]) := by
    intro v hv hZ
    refine va_gets (index := 1053) hx hb hZ va_S.rf hown (hw _ ql_f1053 _) (fun _ h9 => h9) (by decide +kernel) ?_
    refine w_callH (va_runS (As := [.int i, .int n, v]) (rest := []) ⟨hx, hb, hml, hown, fun w h => hw w h _⟩ (m_pci hv h0 h1) ⟨callB_of2 (Y := Y_chk) (Z := Y_pci) (idx := 1059) zk_pci ql_1059 ⟨by decide, by decide⟩ hw, hw _ qy_pci_s _⟩ ⟨fun a U g mk q => q, fun U hU hW => ⟨rfl, trivial⟩⟩ rfl rfl hl.1 rfl (lv_room (Nat.le_of_ble_eq_true rfl)) (show decode prog_17_method_155_code 5 = .ok (.invokestatic 1059, 3) by decide +kernel) ⟨Nat.le_of_ble_eq_true rfl, Nat.le_of_ble_eq_true rfl⟩) ?_
    refine lv_pop hx hb (by decide +kernel) rfl ?_
    exact W.vret hx hb B.returns (fun t ht hW => ⟨rfl, ht⟩) (fun q hq => by cases hq) (by decide +kernel) hlocks
  rcases hCx.2.2.2.2.2.1.2.2.2 with h | ⟨t, h⟩
  · exact go .null (Or.inl rfl) h
  · exact go (.ref t) (Or.inr ⟨t, rfl⟩) h
theorem r_chk {i k : Int32} (h0 : ¬ i < 0) (h1 : i < k) (hl : Cond.methodLink Y.1.cls idx Y_chk.1 ∈ GW) (hRm : RoomOK Y Y_chk) (hcat : (st.map mcat).sum ≤ 8) (hd : decode Y.2.1 pc = .ok (.invokestatic idx, 3)) (kk : SimR l G Y lim X (pc + 3) ls st M) : SimR l G Y lim X pc ls (.inl k :: .inl i :: st) M := by
  intro res hres p e R s m args below meth c H locs cells slots Q lsA hC hR hS hN hlen hlv hr
  have kk := kk res hres p e R s m args below meth c H locs cells slots Q lsA hC hR hS hN hlen hlv hr
  obtain ⟨hx, hb, hml, hown, hnm, rfl, hCx⟩ := hC
  have hw := hCx.2.2.2.1.1
  have hrm := hN.room (mc := 0) (ms := 0) hN.bnd.1 hN.bnd.2.1
  exact w_callH (va_runS (As := [.int i, .int k]) (rest := st.map (cv G)) ⟨hx, hb, hml, hown, fun w h => hw w h _⟩ (m_chk h0 h1) ⟨callB_of2 (Z := Y_chk) zk_chk hl hRm hw, hw _ qy_chk_s _⟩ ⟨fun a U g mk q => ⟨q.1, q.2.calling g mk a⟩, fun U hU hW => ⟨rfl, hCx.warm hW (by rw [hU]; exact hS.1) (fun q h1 h2 => by rw [hU]; exact hS.2.1 q h1 h2)⟩⟩ rfl rfl hlv.1 rfl (lv_room (cl_cat hcat)) hd hrm) kk
/-! the members -/
theorem c_cod (hn : 2000 ≤ n ∧ n < 2015) : MetS l G Y_cod [.inr (.inr n)] M (some (.int 0)) M := by
  refine met_ofF (X := some (some (.int 0), M)) (ls0 := [some (.inr (.inr n))]) (by decide +kernel) rfl (lv_in (m := 0) rfl) (sl_le (Nat.le_of_ble_eq_true rfl)) rfl ⟨rfl, rfl⟩ (fun lim => ?_)
  refine r_scomp ql_f38 (by decide +kernel) ?_
  have h : SimR l G Y_cod lim ((if (1 : Int32) = 0 then none else some (some (.int 0), M) : Option (Option Value × Mem)).bind some) 3 [some (.inr (.inr n))] [.inl 1] M := by
    refine s_if_eq (α := Option Value × Mem) (K := some) (tgt := 13) (off := 10) (by decide +kernel) (by decide) (fun q => absurd q (by decide)) (fun _ => ?_)
    refine s_run (b := [(.aload_n 0, 1)]) 7 [some (.inr (.inr n))] [.inr (.inr n)] (by decide +kernel) rfl ?_
    refine r_scod hn ql_f15 (by decide +kernel) ?_
    refine s_run (α := Option Value × Mem) (e := some (some (.int 0), M)) (K := some) (b := [(.goto 4, 3)]) 14 [some (.inr (.inr n))] [.inl 0] (by decide +kernel) rfl ?_
    exact s_ret (r := some (.int 0)) rfl rfl (by decide +kernel) ⟨.byte, rfl, rfl⟩
  exact h
theorem c_lat (hn : 2000 ≤ n ∧ n < 2015) : MetS l G Y_lat [.inr (.inr n)] M (some (.int 1)) M := by
  refine met_ofF (X := some (some (.int 1), M)) (ls0 := [some (.inr (.inr n))]) (by decide +kernel) rfl (lv_in (m := 0) rfl) (sl_le (Nat.le_of_ble_eq_true rfl)) rfl ⟨rfl, rfl⟩ (fun lim => ?_)
  refine r_scomp ql_f38 (by decide +kernel) ?_
  have h : SimR l G Y_lat lim ((if (1 : Int32) = 0 then none else some (some (.int 1), M) : Option (Option Value × Mem)).bind some) 3 [some (.inr (.inr n))] [.inl 1] M := by
    refine s_if_eq (α := Option Value × Mem) (K := some) (tgt := 17) (off := 14) (by decide +kernel) (by decide) (fun q => absurd q (by decide)) (fun _ => ?_)
    refine s_run (b := [(.aload_n 0, 1)]) 7 [some (.inr (.inr n))] [.inr (.inr n)] (by decide +kernel) rfl ?_
    refine r_scod hn ql_f15 (by decide +kernel) ?_
    have h2 : SimR l G Y_lat lim ((if (0 : Int32) = 0 then some (some (.int 1), M) else none : Option (Option Value × Mem)).bind some) 10 [some (.inr (.inr n))] [.inl 0] M := by
      refine s_if_ne (α := Option Value × Mem) (K := some) (tgt := 17) (off := 7) (by decide +kernel) (by decide) (fun _ => ?_) (fun q => absurd rfl q)
      refine s_run (α := Option Value × Mem) (e := some (some (.int 1), M)) (K := some) (b := [(.iconst 1, 1), (.goto 4, 3)]) 18 [some (.inr (.inr n))] [.inl 1] (by decide +kernel) rfl ?_
      exact s_ret (r := some (.int 1)) rfl rfl (by decide +kernel) ⟨.boolean, rfl, rfl⟩
    exact h2
  exact h
theorem c_sln {v : Int32} (h : strLen n = some v) : MetS l G Y_sln [.inr (.inr n)] M (some (.int v)) M := by
  obtain ⟨hn, h⟩ := ifs h
  have hv := Option.some.inj h
  refine met_ofF (X := ((some (0 : Int32)).bind fun z => some (some (.int v), M)).bind some) (ls0 := [some (.inr (.inr n))]) (by decide +kernel) rfl (lv_in (m := 0) rfl) (sl_le (Nat.le_of_ble_eq_true rfl)) rfl ⟨rfl, rfl⟩ (fun lim => ?_)
  refine s_run (α := Option Value × Mem) (K := some) (b := [(.aload_n 0, 1)]) 1 [some (.inr (.inr n))] [.inr (.inr n)] (by decide +kernel) rfl ?_
  refine r_sval hn ql_f9 (by decide +kernel) ?_
  refine r_slen hn hv (by decide +kernel) ?_
  refine s_run (α := Option Value × Mem) (K := some) (e := (some (0 : Int32)).bind fun z => some (some (.int v), M)) (b := [(.aload_n 0, 1)]) 6 [some (.inr (.inr n))] [.inr (.inr n), .inl v] (by decide +kernel) rfl ?_
  refine s_cVr (Z := Y_cod) (vs := []) (st := [.inl v]) (rO := fun z => some (.inl z)) hn rfl zk_cod zi_cod ql_335 ⟨by decide, by decide⟩ ⟨rfl, rfl⟩ rfl rfl (Nat.le_of_ble_eq_true rfl) (by decide +kernel) (fun z hz => by cases hz; exact c_cod hn) (fun z hz => ?_)
  cases hz
  refine s_run (b := [(.ishr, 1)]) 10 [some (.inr (.inr n))] [.inl (v >>> ((0 : Int32) &&& 31))] (by decide +kernel) rfl ?_
  refine s_ret (r := some (.int v)) rfl ?_ (show decode Y_sln.2.1 10 = .ok (.ireturn, 1) by decide +kernel) ⟨.int, rfl, rfl⟩
  have e1 : v >>> ((0 : Int32) &&& 31) = v := by
    rw [← hv]
    have : ∀ j, j < 15 → Int32.ofNat (stBy.getD j []).length >>> ((0 : Int32) &&& 31) = Int32.ofNat (stBy.getD j []).length := by decide +kernel
    exact this _ (isStr hn).1
  rw [e1]
  rfl
theorem chr_ok : ∀ j, j < 15 → ∀ v ∈ stBy.getD j [], (v &&& 255).toUInt32 % 65536 = v.toUInt32 ∧ narrow .char (.int v) = .int v := by decide +kernel
theorem c_lca {v i : Int32} (h : strAt n i = some v) : MetS l G Y_lca [.inr (.inr (n + 1000)), .inl i] M (some (.int v)) M := by
  obtain ⟨⟨hn, hi⟩, hv⟩ := ifs h
  obtain ⟨hlt, hmem⟩ := List.getElem?_eq_some_iff.mp hv
  obtain ⟨k1, k2⟩ := chr_ok _ (isStr hn).1 v (by rw [← hmem]; exact List.getElem_mem hlt)
  have hL : i < Int32.ofNat (stBy.getD (n - 2000) []).length := by
    have h15 : ∀ j, j < 15 → (stBy.getD j []).length < 100 := by decide +kernel
    have h16 := h15 _ (isStr hn).1
    obtain ⟨j, hj, rfl⟩ := nI_of hi
    rw [nI_clamp hj] at hlt
    exact nI_lt hlt (by omega)
  refine met_ofF (X := some (some (.int v), M)) (ls0 := [some (.inr (.inr (n + 1000))), some (.inl i)]) (by decide +kernel) rfl (lv_in (m := 0) rfl) (sl_le (Nat.le_of_ble_eq_true rfl)) rfl ⟨rfl, rfl⟩ (fun lim => ?_)
  refine s_run (α := Option Value × Mem) (K := some) (e := some (some (.int v), M)) (b := [(.iload_n 1, 1), (.aload_n 0, 1)]) 2 [some (.inr (.inr (n + 1000))), some (.inl i)] [.inr (.inr (n + 1000)), .inl i] (by decide +kernel) rfl ?_
  refine r_slen hn rfl (by decide +kernel) ?_
  refine r_chk hi hL ql_9 ⟨by decide, by decide⟩ (Nat.le_of_ble_eq_true rfl) (by decide +kernel) ?_
  refine s_run (α := Option Value × Mem) (K := some) (e := some (some (.int v), M)) (b := [(.aload_n 0, 1), (.iload_n 1, 1)]) 8 [some (.inr (.inr (n + 1000))), some (.inl i)] [.inl i, .inr (.inr (n + 1000))] (by decide +kernel) rfl ?_
  refine r_sbyte hn hi hv (by decide +kernel) ?_
  refine s_run (α := Option Value × Mem) (K := some) (e := some (some (.int v), M)) (b := [(.sipush 255, 3), (.iand, 1), (.i2c, 1)]) 14 [some (.inr (.inr (n + 1000))), some (.inl i)] [.inl (((v &&& 255).toUInt32 % 65536).toInt32)] (by decide +kernel) rfl ?_
  refine s_ret (r := some (.int v)) rfl ?_ (show decode Y_lca.2.1 14 = .ok (.ireturn, 1) by decide +kernel) ⟨.char, rfl, k2⟩
  rw [k1]
  rfl
theorem c_sca {v i : Int32} (h : strAt n i = some v) : MetS l G Y_sca [.inr (.inr n), .inl i] M (some (.int v)) M := by
  obtain ⟨⟨hn, hi⟩, hv⟩ := ifs h
  obtain ⟨hlt, hmem⟩ := List.getElem?_eq_some_iff.mp hv
  obtain ⟨k1, k2⟩ := chr_ok _ (isStr hn).1 v (by rw [← hmem]; exact List.getElem_mem hlt)
  refine met_ofF (X := ((some (1 : Int32)).bind fun z => if z = 0 then none else (strAt n i).bind fun w => if w = v then some (some (.int w), M) else none).bind some) (ls0 := [some (.inr (.inr n)), some (.inl i)]) (by decide +kernel) rfl (lv_in (m := 0) rfl) (sl_le (Nat.le_of_ble_eq_true rfl)) (by rw [h]; simp) ⟨rfl, rfl⟩ (fun lim => ?_)
  refine s_run (α := Option Value × Mem) (K := some) (e := (some (1 : Int32)).bind fun z => if z = 0 then none else (strAt n i).bind fun w => if w = v then some (some (.int w), M) else none) (b := [(.aload_n 0, 1)]) 1 [some (.inr (.inr n)), some (.inl i)] [.inr (.inr n)] (by decide +kernel) rfl ?_
  refine s_cVr (Z := Y_lat) (vs := []) (st := []) (rO := fun z => some (.inl z)) hn rfl zk_lat zi_lat ql_492 ⟨by decide, by decide⟩ ⟨rfl, rfl⟩ rfl rfl (Nat.le_of_ble_eq_true rfl) (by decide +kernel) (fun z hz => by cases hz; exact c_lat hn) (fun z hz => ?_)
  refine s_if_eq (α := Option Value × Mem) (K := some) (x := z) (tgt := 16) (off := 12) (by decide +kernel) (by decide) (fun _ => s_none) (fun _ => ?_)
  refine s_run (b := [(.aload_n 0, 1)]) 8 [some (.inr (.inr n)), some (.inl i)] [.inr (.inr n)] (by decide +kernel) rfl ?_
  refine r_sval hn ql_f9 (by decide +kernel) ?_
  refine s_run (α := Option Value × Mem) (K := some) (e := (strAt n i).bind fun w => if w = v then some (some (.int w), M) else none) (b := [(.iload_n 1, 1)]) 12 [some (.inr (.inr n)), some (.inl i)] [.inl i, .inr (.inr (n + 1000))] (by decide +kernel) rfl ?_
  refine s_cS (Z := Y_lca) (vs := [.inr (.inr (n + 1000)), .inl i]) (st := []) (rO := fun z => some (.inl z)) (mO := fun _ => M) zk_lca qy_lca_s ql_495 ⟨by decide, by decide⟩ ⟨rfl, rfl⟩ rfl rfl (Nat.le_of_ble_eq_true rfl) (by decide +kernel) (fun z hz => c_lca hz) (fun w => ?_)
  refine s_ite (fun hw => ?_) (fun _ => s_none)
  subst hw
  exact s_ret (r := some (.int w)) rfl rfl (show decode Y_sca.2.1 15 = .ok (.ireturn, 1) by decide +kernel) ⟨.char, rfl, k2⟩
theorem s_strLen {f : Int32 → Option α} (hl : Cond.methodLink Y.1.cls idx ⟨"java/lang/String", "length", "()I"⟩ ∈ GW) (hr : 5 ≤ Y.2.2.2.2.frames ∧ 200 ≤ Y.2.2.2.2.locals) (hcat : (st.map mcat).sum ≤ 8) (hd : decode Y.2.1 pc = .ok (.invokevirtual idx, 3)) (kk : ∀ v, Sim l G Y lim (f v) K (pc + 3) ls (.inl v :: st) M) : Sim l G Y lim ((strLen n).bind f) K pc ls (.inr (.inr n) :: st) M := by
  by_cases hn : 2000 ≤ n ∧ n < 2015
  · exact s_cVr (Z := Y_sln) (vs := []) (st := st) (rO := fun z => some (.inl z)) hn rfl zk_sln zi_sln hl ⟨show 1 + 1 ≤ _ by omega, show 8 + (1 + 11) + 20 ≤ _ by omega⟩ ⟨rfl, rfl⟩ rfl rfl hcat hd (fun z hz => c_sln hz) (fun z _ => kk z)
  · intro res hres
    simp [strLen, hn] at hres
theorem s_strAt {f : Int32 → Option α} {i : Int32} (hl : Cond.methodLink Y.1.cls idx ⟨"java/lang/String", "charAt", "(I)C"⟩ ∈ GW) (hr : 5 ≤ Y.2.2.2.2.frames ∧ 200 ≤ Y.2.2.2.2.locals) (hcat : (st.map mcat).sum ≤ 8) (hd : decode Y.2.1 pc = .ok (.invokevirtual idx, 3)) (kk : ∀ v, Sim l G Y lim (f v) K (pc + 3) ls (.inl v :: st) M) : Sim l G Y lim ((strAt n i).bind f) K pc ls (.inl i :: .inr (.inr n) :: st) M := by
  by_cases hn : 2000 ≤ n ∧ n < 2015
  · exact s_cVr (Z := Y_sca) (vs := [.inl i]) (st := st) (rO := fun z => some (.inl z)) hn rfl zk_sca zi_sca hl ⟨show 3 + 1 ≤ _ by omega, show 8 + (2 + 11) + 64 ≤ _ by omega⟩ ⟨rfl, rfl⟩ rfl rfl hcat hd (fun z hz => c_sca hz) (fun z _ => kk z)
  · intro res hres
    simp [strAt, hn] at hres
end SR
