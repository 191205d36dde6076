/-! the law out of the calls -/
theorem case_feed {M : Mem} {X : List Int32} {x3 : Int32} {a1 a2 a3 a4 a5 : Int32} (hI : Inv M) (h1 : scI X (x3 + 1) = some a1) (h2 : scI X (x3 + 2) = some a2) (h3 : scI X (x3 + 3) = some a3) (h4 : scI X (x3 + 4) = some a4) (h5 : scI X (x3 + 5) = some a5) : ∃ M2, f_L_law_J204 lim0 X M 1 255 x3 = some (.inl (x3 + 6, M2)) ∧ Inv M2 := by
  have e0 : shp M 1 = some (.inl 11) := sk_shp hI.1 (by omega) rfl
  obtain ⟨r, M1, M2, e1, e2, e3, hI2⟩ := call_feed hI a1 a2 a3 a4 a5 
  refine ⟨M2, ?_, hI2⟩
  simp [f_L_law_J204, h1, h2, h3, h4, h5, ob, e0, e1, e2, e3]

theorem case_end {M : Mem} {X : List Int32} {x3 : Int32} {a1 a2 a3 a4 a5 : Int32} (hI : Inv M) (h1 : scI X (x3 + 1) = some a1) (h2 : scI X (x3 + 2) = some a2) (h3 : scI X (x3 + 3) = some a3) (h4 : scI X (x3 + 4) = some a4) (h5 : scI X (x3 + 5) = some a5) : ∃ M2, f_L_law_J267 lim0 X M 1 255 x3 = some (.inl (x3 + 6, M2)) ∧ Inv M2 := by
  have e0 : shp M 1 = some (.inl 11) := sk_shp hI.1 (by omega) rfl
  obtain ⟨r, M1, M2, e1, e2, e3, hI2⟩ := call_end hI a1 
  refine ⟨M2, ?_, hI2⟩
  simp [f_L_law_J267, h1, h2, h3, h4, h5, ob, e0, e1, e2, e3]

theorem case_text {M : Mem} {X : List Int32} {x3 : Int32} {a1 a2 a3 a4 a5 : Int32} (hI : Inv M) (h1 : scI X (x3 + 1) = some a1) (h2 : scI X (x3 + 2) = some a2) (h3 : scI X (x3 + 3) = some a3) (h4 : scI X (x3 + 4) = some a4) (h5 : scI X (x3 + 5) = some a5) : ∃ M2, f_L_law_J290 lim0 X M 1 255 x3 = some (.inl (x3 + 6, M2)) ∧ Inv M2 := by
  have e0 : shp M 1 = some (.inl 11) := sk_shp hI.1 (by omega) rfl
  obtain ⟨r, M1, M2, e1, e2, e3, hI2⟩ := call_text hI a1 a2 
  refine ⟨M2, ?_, hI2⟩
  simp [f_L_law_J290, h1, h2, h3, h4, h5, ob, e0, e1, e2, e3]

theorem case_fault {M : Mem} {X : List Int32} {x3 : Int32} {a1 a2 a3 a4 a5 : Int32} (hI : Inv M) (h1 : scI X (x3 + 1) = some a1) (h2 : scI X (x3 + 2) = some a2) (h3 : scI X (x3 + 3) = some a3) (h4 : scI X (x3 + 4) = some a4) (h5 : scI X (x3 + 5) = some a5) : ∃ M2, f_L_law_J323 lim0 X M 1 255 x3 = some (.inl (x3 + 6, M2)) ∧ Inv M2 := by
  have e0 : shp M 1 = some (.inl 11) := sk_shp hI.1 (by omega) rfl
  obtain ⟨r, M1, M2, e1, e2, e3, hI2⟩ := call_fault hI a1 
  refine ⟨M2, ?_, hI2⟩
  obtain ⟨e1, rfl⟩ := e1
  obtain ⟨e3, rfl⟩ := e3
  simp [f_L_law_J323, h1, h2, h3, h4, h5, ob, e0, e1, e2, e3]

theorem case_office {M : Mem} {X : List Int32} {x3 : Int32} {a1 a2 a3 a4 a5 : Int32} (hI : Inv M) (h1 : scI X (x3 + 1) = some a1) (h2 : scI X (x3 + 2) = some a2) (h3 : scI X (x3 + 3) = some a3) (h4 : scI X (x3 + 4) = some a4) (h5 : scI X (x3 + 5) = some a5) : ∃ M2, f_L_law_J346 lim0 X M 1 255 x3 = some (.inl (x3 + 6, M2)) ∧ Inv M2 := by
  have e0 : shp M 1 = some (.inl 11) := sk_shp hI.1 (by omega) rfl
  obtain ⟨r, M1, M2, e1, e2, e3, hI2⟩ := call_office hI a1 a2 
  refine ⟨M2, ?_, hI2⟩
  obtain ⟨e1, rfl⟩ := e1
  simp [f_L_law_J346, h1, h2, h3, h4, h5, ob, e0, e1, e2, e3]

theorem case_deed {M : Mem} {X : List Int32} {x3 : Int32} {a1 a2 a3 a4 a5 : Int32} (hI : Inv M) (h1 : scI X (x3 + 1) = some a1) (h2 : scI X (x3 + 2) = some a2) (h3 : scI X (x3 + 3) = some a3) (h4 : scI X (x3 + 4) = some a4) (h5 : scI X (x3 + 5) = some a5) : ∃ M2, f_L_law_J379 lim0 X M 1 255 x3 = some (.inl (x3 + 6, M2)) ∧ Inv M2 := by
  have e0 : shp M 1 = some (.inl 11) := sk_shp hI.1 (by omega) rfl
  obtain ⟨r, M1, M2, e1, e2, e3, hI2⟩ := call_deed hI a1 a2 a3 
  refine ⟨M2, ?_, hI2⟩
  obtain ⟨e1, rfl⟩ := e1
  simp [f_L_law_J379, h1, h2, h3, h4, h5, ob, e0, e1, e2, e3]

theorem case_stop {M : Mem} {X : List Int32} {x3 : Int32} {a1 a2 a3 a4 a5 : Int32} (hI : Inv M) (h1 : scI X (x3 + 1) = some a1) (h2 : scI X (x3 + 2) = some a2) (h3 : scI X (x3 + 3) = some a3) (h4 : scI X (x3 + 4) = some a4) (h5 : scI X (x3 + 5) = some a5) : ∃ M2, f_L_law_J422 lim0 X M 1 255 x3 = some (.inl (x3 + 6, M2)) ∧ Inv M2 := by
  have e0 : shp M 1 = some (.inl 11) := sk_shp hI.1 (by omega) rfl
  obtain ⟨r, M1, M2, e1, e2, e3, hI2⟩ := call_stop hI a1 a2 
  refine ⟨M2, ?_, hI2⟩
  simp [f_L_law_J422, h1, h2, h3, h4, h5, ob, e0, e1, e2, e3]

theorem case_state {M : Mem} {X : List Int32} {x3 : Int32} {a1 a2 a3 a4 a5 : Int32} (hI : Inv M) (h1 : scI X (x3 + 1) = some a1) (h2 : scI X (x3 + 2) = some a2) (h3 : scI X (x3 + 3) = some a3) (h4 : scI X (x3 + 4) = some a4) (h5 : scI X (x3 + 5) = some a5) : ∃ M2, f_L_law_J455 lim0 X M 1 255 x3 = some (.inl (x3 + 6, M2)) ∧ Inv M2 := by
  have e0 : shp M 1 = some (.inl 11) := sk_shp hI.1 (by omega) rfl
  obtain ⟨r, M1, M2, e1, e2, e3, hI2⟩ := call_state hI a1 a2 a3 a4 
  refine ⟨M2, ?_, hI2⟩
  simp [f_L_law_J455, h1, h2, h3, h4, h5, ob, e0, e1, e2, e3]

theorem case_who {M : Mem} {X : List Int32} {x3 : Int32} {a1 a2 a3 a4 a5 : Int32} (hI : Inv M) (h1 : scI X (x3 + 1) = some a1) (h2 : scI X (x3 + 2) = some a2) (h3 : scI X (x3 + 3) = some a3) (h4 : scI X (x3 + 4) = some a4) (h5 : scI X (x3 + 5) = some a5) : ∃ M2, f_L_law_J508 lim0 X M 1 255 x3 = some (.inl (x3 + 6, M2)) ∧ Inv M2 := by
  have e0 : shp M 1 = some (.inl 11) := sk_shp hI.1 (by omega) rfl
  obtain ⟨r, M1, M2, e1, e2, e3, hI2⟩ := call_who hI a1 a2 a3 (if a4 = 0 then 0 else 1) (by split <;> simp)
  refine ⟨M2, ?_, hI2⟩
  by_cases hb : a4 = 0
  · simp only [hb, if_true] at e1 e3
    simp [f_L_law_J508, f_L_law_J537, f_L_law_J569, h1, h2, h3, h4, h5, ob, e0, e1, e2, e3, hb]
  · simp only [hb, if_false] at e1 e3
    simp [f_L_law_J508, f_L_law_J537, f_L_law_J569, h1, h2, h3, h4, h5, ob, e0, e1, e2, e3, hb]

theorem case_enough {M : Mem} {X : List Int32} {x3 : Int32} {a1 a2 a3 a4 a5 : Int32} (hI : Inv M) (h1 : scI X (x3 + 1) = some a1) (h2 : scI X (x3 + 2) = some a2) (h3 : scI X (x3 + 3) = some a3) (h4 : scI X (x3 + 4) = some a4) (h5 : scI X (x3 + 5) = some a5) : ∃ M2, f_L_law_J577 lim0 X M 1 255 x3 = some (.inl (x3 + 6, M2)) ∧ Inv M2 := by
  have e0 : shp M 1 = some (.inl 11) := sk_shp hI.1 (by omega) rfl
  obtain ⟨r, M1, M2, e1, e2, e3, hI2⟩ := call_enough hI a1 
  refine ⟨M2, ?_, hI2⟩
  simp [f_L_law_J577, h1, h2, h3, h4, h5, ob, e0, e1, e2, e3]

theorem case_odds {M : Mem} {X : List Int32} {x3 : Int32} {a1 a2 a3 a4 a5 : Int32} (hI : Inv M) (h1 : scI X (x3 + 1) = some a1) (h2 : scI X (x3 + 2) = some a2) (h3 : scI X (x3 + 3) = some a3) (h4 : scI X (x3 + 4) = some a4) (h5 : scI X (x3 + 5) = some a5) : ∃ M2, f_L_law_J600 lim0 X M 1 255 x3 = some (.inl (x3 + 6, M2)) ∧ Inv M2 := by
  have e0 : shp M 1 = some (.inl 11) := sk_shp hI.1 (by omega) rfl
  obtain ⟨r, M1, M2, e1, e2, e3, hI2⟩ := call_odds hI a1 a2 (if a3 = 0 then 0 else 1) (by split <;> simp)
  refine ⟨M2, ?_, hI2⟩
  by_cases hb : a3 = 0
  · simp only [hb, if_true] at e1 e3
    simp [f_L_law_J600, f_L_law_J624, f_L_law_J651, h1, h2, h3, h4, h5, ob, e0, e1, e2, e3, hb, lg_cmp]
  · simp only [hb, if_false] at e1 e3
    simp [f_L_law_J600, f_L_law_J624, f_L_law_J651, h1, h2, h3, h4, h5, ob, e0, e1, e2, e3, hb, lg_cmp]

theorem case_mean {M : Mem} {X : List Int32} {x3 : Int32} {a1 a2 a3 a4 a5 : Int32} (hI : Inv M) (h1 : scI X (x3 + 1) = some a1) (h2 : scI X (x3 + 2) = some a2) (h3 : scI X (x3 + 3) = some a3) (h4 : scI X (x3 + 4) = some a4) (h5 : scI X (x3 + 5) = some a5) : ∃ M2, f_L_law_J660 lim0 X M 1 255 x3 = some (.inl (x3 + 6, M2)) ∧ Inv M2 := by
  have e0 : shp M 1 = some (.inl 11) := sk_shp hI.1 (by omega) rfl
  obtain ⟨r, M1, M2, e1, e2, e3, hI2⟩ := call_mean hI a1 a2 (if a3 = 0 then 0 else 1) (by split <;> simp)
  refine ⟨M2, ?_, hI2⟩
  by_cases hb : a3 = 0
  · simp only [hb, if_true] at e1 e3
    simp [f_L_law_J660, f_L_law_J684, f_L_law_J711, h1, h2, h3, h4, h5, ob, e0, e1, e2, e3, hb, lg_cmp]
  · simp only [hb, if_false] at e1 e3
    simp [f_L_law_J660, f_L_law_J684, f_L_law_J711, h1, h2, h3, h4, h5, ob, e0, e1, e2, e3, hb, lg_cmp]

theorem case_rest {M : Mem} {X : List Int32} {x3 : Int32} {a1 a2 a3 a4 a5 : Int32} (hI : Inv M) (h1 : scI X (x3 + 1) = some a1) (h2 : scI X (x3 + 2) = some a2) (h3 : scI X (x3 + 3) = some a3) (h4 : scI X (x3 + 4) = some a4) (h5 : scI X (x3 + 5) = some a5) : ∃ M2, f_L_law_J720 lim0 X M 1 255 x3 = some (.inl (x3 + 6, M2)) ∧ Inv M2 := by
  have e0 : shp M 1 = some (.inl 11) := sk_shp hI.1 (by omega) rfl
  obtain ⟨r, M1, M2, e1, e2, e3, hI2⟩ := call_rest hI a1 a2 a3 a4 
  refine ⟨M2, ?_, hI2⟩
  simp [f_L_law_J720, h1, h2, h3, h4, h5, ob, e0, e1, e2, e3]

theorem case_button {M : Mem} {X : List Int32} {x3 : Int32} {a1 a2 a3 a4 a5 : Int32} (hI : Inv M) (h1 : scI X (x3 + 1) = some a1) (h2 : scI X (x3 + 2) = some a2) (h3 : scI X (x3 + 3) = some a3) (h4 : scI X (x3 + 4) = some a4) (h5 : scI X (x3 + 5) = some a5) : ∃ M2, f_L_law_J773 lim0 X M 1 255 x3 = some (.inl (x3 + 6, M2)) ∧ Inv M2 := by
  have e0 : shp M 1 = some (.inl 11) := sk_shp hI.1 (by omega) rfl
  obtain ⟨r, M1, M2, e1, e2, e3, hI2⟩ := call_button hI a1 a2 
  refine ⟨M2, ?_, hI2⟩
  simp [f_L_law_J773, h1, h2, h3, h4, h5, ob, e0, e1, e2, e3, lg_cmp]

theorem case_fact {M : Mem} {X : List Int32} {x3 : Int32} {a1 a2 a3 a4 a5 : Int32} (hI : Inv M) (h1 : scI X (x3 + 1) = some a1) (h2 : scI X (x3 + 2) = some a2) (h3 : scI X (x3 + 3) = some a3) (h4 : scI X (x3 + 4) = some a4) (h5 : scI X (x3 + 5) = some a5) : ∃ M2, f_L_law_J807 lim0 X M 1 255 x3 = some (.inl (x3 + 6, M2)) ∧ Inv M2 := by
  have e0 : shp M 1 = some (.inl 11) := sk_shp hI.1 (by omega) rfl
  obtain ⟨r, M1, M2, e1, e2, e3, hI2⟩ := call_fact hI a1 a2 a3 
  refine ⟨M2, ?_, hI2⟩
  obtain ⟨e1, rfl⟩ := e1
  simp [f_L_law_J807, h1, h2, h3, h4, h5, ob, e0, e1, e2, e3]

theorem case_fits {M : Mem} {X : List Int32} {x3 : Int32} {a1 a2 a3 a4 a5 : Int32} (hI : Inv M) (h1 : scI X (x3 + 1) = some a1) (h2 : scI X (x3 + 2) = some a2) (h3 : scI X (x3 + 3) = some a3) (h4 : scI X (x3 + 4) = some a4) (h5 : scI X (x3 + 5) = some a5) : ∃ M2, f_L_law_J850 lim0 X M 1 255 x3 = some (.inl (x3 + 6, M2)) ∧ Inv M2 := by
  have e0 : shp M 1 = some (.inl 11) := sk_shp hI.1 (by omega) rfl
  obtain ⟨r, M1, M2, e1, e2, e3, hI2⟩ := call_fits hI a1 a2 a3 
  refine ⟨M2, ?_, hI2⟩
  simp [f_L_law_J850, h1, h2, h3, h4, h5, ob, e0, e1, e2, e3]

theorem case_drawn {M : Mem} {X : List Int32} {x3 : Int32} {a1 a2 a3 a4 a5 : Int32} (hI : Inv M) (h1 : scI X (x3 + 1) = some a1) (h2 : scI X (x3 + 2) = some a2) (h3 : scI X (x3 + 3) = some a3) (h4 : scI X (x3 + 4) = some a4) (h5 : scI X (x3 + 5) = some a5) : ∃ M2, f_L_law_J893 lim0 X M 1 255 x3 = some (.inl (x3 + 6, M2)) ∧ Inv M2 := by
  have e0 : shp M 1 = some (.inl 11) := sk_shp hI.1 (by omega) rfl
  obtain ⟨r, M1, M2, e1, e2, e3, hI2⟩ := call_drawn hI a1 a2 a3 a4 
  refine ⟨M2, ?_, hI2⟩
  simp [f_L_law_J893, h1, h2, h3, h4, h5, ob, e0, e1, e2, e3]

theorem case_lunch {M : Mem} {X : List Int32} {x3 : Int32} {a1 a2 a3 a4 a5 : Int32} (hI : Inv M) (h1 : scI X (x3 + 1) = some a1) (h2 : scI X (x3 + 2) = some a2) (h3 : scI X (x3 + 3) = some a3) (h4 : scI X (x3 + 4) = some a4) (h5 : scI X (x3 + 5) = some a5) : ∃ M2, f_L_law_J946 lim0 X M 1 255 x3 = some (.inl (x3 + 6, M2)) ∧ Inv M2 := by
  have e0 : shp M 1 = some (.inl 11) := sk_shp hI.1 (by omega) rfl
  obtain ⟨r, M1, M2, e1, e2, e3, hI2⟩ := call_lunch hI a1 a2 (if a3 = 0 then 0 else 1) (by split <;> simp)
  refine ⟨M2, ?_, hI2⟩
  by_cases hb : a3 = 0
  · simp only [hb, if_true] at e1 e3
    simp [f_L_law_J946, f_L_law_J970, f_L_law_J997, h1, h2, h3, h4, h5, ob, e0, e1, e2, e3, hb]
  · simp only [hb, if_false] at e1 e3
    simp [f_L_law_J946, f_L_law_J970, f_L_law_J997, h1, h2, h3, h4, h5, ob, e0, e1, e2, e3, hb]

theorem case_rule {M : Mem} {X : List Int32} {x3 : Int32} {a1 a2 a3 a4 a5 : Int32} (hI : Inv M) (h1 : scI X (x3 + 1) = some a1) (h2 : scI X (x3 + 2) = some a2) (h3 : scI X (x3 + 3) = some a3) (h4 : scI X (x3 + 4) = some a4) (h5 : scI X (x3 + 5) = some a5) : ∃ M2, f_L_law_J1005 lim0 X M 1 255 x3 = some (.inl (x3 + 6, M2)) ∧ Inv M2 := by
  have e0 : shp M 1 = some (.inl 11) := sk_shp hI.1 (by omega) rfl
  obtain ⟨r, M1, M2, e1, e2, e3, hI2⟩ := call_rule hI a1 a2 a3 
  refine ⟨M2, ?_, hI2⟩
  simp [f_L_law_J1005, h1, h2, h3, h4, h5, ob, e0, e1, e2, e3]

theorem case_board {M : Mem} {X : List Int32} {x3 : Int32} {a1 a2 a3 a4 a5 : Int32} (hI : Inv M) (h1 : scI X (x3 + 1) = some a1) (h2 : scI X (x3 + 2) = some a2) (h3 : scI X (x3 + 3) = some a3) (h4 : scI X (x3 + 4) = some a4) (h5 : scI X (x3 + 5) = some a5) : ∃ M2, f_L_law_J1048 lim0 X M 1 255 x3 = some (.inl (x3 + 6, M2)) ∧ Inv M2 := by
  have e0 : shp M 1 = some (.inl 11) := sk_shp hI.1 (by omega) rfl
  obtain ⟨r, M1, M2, e1, e2, e3, hI2⟩ := call_board hI a1 (if a2 = 0 then 0 else 1) (by split <;> simp)
  refine ⟨M2, ?_, hI2⟩
  obtain ⟨e1, rfl⟩ := e1
  by_cases hb : a2 = 0
  · simp only [hb, if_true] at e1 e3
    simp [f_L_law_J1048, f_L_law_J1067, f_L_law_J1089, h1, h2, h3, h4, h5, ob, e0, e1, e2, e3, hb]
  · simp only [hb, if_false] at e1 e3
    simp [f_L_law_J1048, f_L_law_J1067, f_L_law_J1089, h1, h2, h3, h4, h5, ob, e0, e1, e2, e3, hb]

theorem case_rooms {M : Mem} {X : List Int32} {x3 : Int32} {a1 a2 a3 a4 a5 : Int32} (hI : Inv M) (h1 : scI X (x3 + 1) = some a1) (h2 : scI X (x3 + 2) = some a2) (h3 : scI X (x3 + 3) = some a3) (h4 : scI X (x3 + 4) = some a4) (h5 : scI X (x3 + 5) = some a5) : ∃ M2, f_L_law_J1097 lim0 X M 1 255 x3 = some (.inl (x3 + 6, M2)) ∧ Inv M2 := by
  have e0 : shp M 1 = some (.inl 11) := sk_shp hI.1 (by omega) rfl
  obtain ⟨r, M1, M2, e1, e2, e3, hI2⟩ := call_rooms hI a1 (if a2 = 0 then 0 else 1) (by split <;> simp)
  refine ⟨M2, ?_, hI2⟩
  obtain ⟨e1, rfl⟩ := e1
  by_cases hb : a2 = 0
  · simp only [hb, if_true] at e1 e3
    simp [f_L_law_J1097, f_L_law_J1116, f_L_law_J1138, h1, h2, h3, h4, h5, ob, e0, e1, e2, e3, hb]
  · simp only [hb, if_false] at e1 e3
    simp [f_L_law_J1097, f_L_law_J1116, f_L_law_J1138, h1, h2, h3, h4, h5, ob, e0, e1, e2, e3, hb]

theorem case_seat {M : Mem} {X : List Int32} {x3 : Int32} {a1 a2 a3 a4 a5 : Int32} (hI : Inv M) (h1 : scI X (x3 + 1) = some a1) (h2 : scI X (x3 + 2) = some a2) (h3 : scI X (x3 + 3) = some a3) (h4 : scI X (x3 + 4) = some a4) (h5 : scI X (x3 + 5) = some a5) : ∃ M2, f_L_law_J1146 lim0 X M 1 255 x3 = some (.inl (x3 + 6, M2)) ∧ Inv M2 := by
  have e0 : shp M 1 = some (.inl 11) := sk_shp hI.1 (by omega) rfl
  obtain ⟨r, M1, M2, e1, e2, e3, hI2⟩ := call_seat hI a1 a2 (if a3 = 0 then 0 else 1) (by split <;> simp)
  refine ⟨M2, ?_, hI2⟩
  obtain ⟨e1, rfl⟩ := e1
  by_cases hb : a3 = 0
  · simp only [hb, if_true] at e1 e3
    simp [f_L_law_J1146, f_L_law_J1170, f_L_law_J1197, h1, h2, h3, h4, h5, ob, e0, e1, e2, e3, hb]
  · simp only [hb, if_false] at e1 e3
    simp [f_L_law_J1146, f_L_law_J1170, f_L_law_J1197, h1, h2, h3, h4, h5, ob, e0, e1, e2, e3, hb]

theorem case_quiet {M : Mem} {X : List Int32} {x3 : Int32} {a1 a2 a3 a4 a5 : Int32} (hI : Inv M) (h1 : scI X (x3 + 1) = some a1) (h2 : scI X (x3 + 2) = some a2) (h3 : scI X (x3 + 3) = some a3) (h4 : scI X (x3 + 4) = some a4) (h5 : scI X (x3 + 5) = some a5) : ∃ M2, f_L_law_J1205 lim0 X M 1 255 x3 = some (.inl (x3 + 6, M2)) ∧ Inv M2 := by
  have e0 : shp M 1 = some (.inl 11) := sk_shp hI.1 (by omega) rfl
  obtain ⟨r, M1, M2, e1, e2, e3, hI2⟩ := call_quiet hI a1 a2 
  refine ⟨M2, ?_, hI2⟩
  obtain ⟨e1, rfl⟩ := e1
  simp [f_L_law_J1205, h1, h2, h3, h4, h5, ob, e0, e1, e2, e3]

theorem case_given {M : Mem} {X : List Int32} {x3 : Int32} {a1 a2 a3 a4 a5 : Int32} (hI : Inv M) (h1 : scI X (x3 + 1) = some a1) (h2 : scI X (x3 + 2) = some a2) (h3 : scI X (x3 + 3) = some a3) (h4 : scI X (x3 + 4) = some a4) (h5 : scI X (x3 + 5) = some a5) : ∃ M2, f_L_law_J1238 lim0 X M 1 255 x3 = some (.inl (x3 + 6, M2)) ∧ Inv M2 := by
  have e0 : shp M 1 = some (.inl 11) := sk_shp hI.1 (by omega) rfl
  obtain ⟨r, M1, M2, e1, e2, e3, hI2⟩ := call_given hI a1 a2 
  refine ⟨M2, ?_, hI2⟩
  simp [f_L_law_J1238, h1, h2, h3, h4, h5, ob, e0, e1, e2, e3]

theorem case_curve {M : Mem} {X : List Int32} {x3 : Int32} {a1 a2 a3 a4 a5 : Int32} (hI : Inv M) (h1 : scI X (x3 + 1) = some a1) (h2 : scI X (x3 + 2) = some a2) (h3 : scI X (x3 + 3) = some a3) (h4 : scI X (x3 + 4) = some a4) (h5 : scI X (x3 + 5) = some a5) : ∃ M2, f_L_law_J1271 lim0 X M 1 255 x3 = some (.inl (x3 + 6, M2)) ∧ Inv M2 := by
  have e0 : shp M 1 = some (.inl 11) := sk_shp hI.1 (by omega) rfl
  obtain ⟨r, M1, M2, e1, e2, e3, hI2⟩ := call_curve hI a1 a2 
  refine ⟨M2, ?_, hI2⟩
  obtain ⟨e1, rfl⟩ := e1
  simp [f_L_law_J1271, h1, h2, h3, h4, h5, ob, e0, e1, e2, e3]

theorem case_ears {M : Mem} {X : List Int32} {x3 : Int32} {a1 a2 a3 a4 a5 : Int32} (hI : Inv M) (h1 : scI X (x3 + 1) = some a1) (h2 : scI X (x3 + 2) = some a2) (h3 : scI X (x3 + 3) = some a3) (h4 : scI X (x3 + 4) = some a4) (h5 : scI X (x3 + 5) = some a5) : ∃ M2, f_L_law_J1304 lim0 X M 1 255 x3 = some (.inl (x3 + 6, M2)) ∧ Inv M2 := by
  have e0 : shp M 1 = some (.inl 11) := sk_shp hI.1 (by omega) rfl
  obtain ⟨r, M1, M2, e1, e2, e3, hI2⟩ := call_ears hI a1 
  refine ⟨M2, ?_, hI2⟩
  obtain ⟨e1, rfl⟩ := e1
  simp [f_L_law_J1304, h1, h2, h3, h4, h5, ob, e0, e1, e2, e3]

theorem case_order {M : Mem} {X : List Int32} {x3 : Int32} {a1 a2 a3 a4 a5 : Int32} (hI : Inv M) (h1 : scI X (x3 + 1) = some a1) (h2 : scI X (x3 + 2) = some a2) (h3 : scI X (x3 + 3) = some a3) (h4 : scI X (x3 + 4) = some a4) (h5 : scI X (x3 + 5) = some a5) : ∃ M2, f_L_law_J1327 lim0 X M 1 255 x3 = some (.inl (x3 + 6, M2)) ∧ Inv M2 := by
  have e0 : shp M 1 = some (.inl 11) := sk_shp hI.1 (by omega) rfl
  obtain ⟨r, M1, M2, e1, e2, e3, hI2⟩ := call_order hI a1 a2 a3 
  refine ⟨M2, ?_, hI2⟩
  simp [f_L_law_J1327, h1, h2, h3, h4, h5, ob, e0, e1, e2, e3]

theorem case_after {M : Mem} {X : List Int32} {x3 : Int32} {a1 a2 a3 a4 a5 : Int32} (hI : Inv M) (h1 : scI X (x3 + 1) = some a1) (h2 : scI X (x3 + 2) = some a2) (h3 : scI X (x3 + 3) = some a3) (h4 : scI X (x3 + 4) = some a4) (h5 : scI X (x3 + 5) = some a5) : ∃ M2, f_L_law_J1370 lim0 X M 1 255 x3 = some (.inl (x3 + 6, M2)) ∧ Inv M2 := by
  have e0 : shp M 1 = some (.inl 11) := sk_shp hI.1 (by omega) rfl
  obtain ⟨r, M1, M2, e1, e2, e3, hI2⟩ := call_after hI a1 a2 a3 
  refine ⟨M2, ?_, hI2⟩
  simp [f_L_law_J1370, h1, h2, h3, h4, h5, ob, e0, e1, e2, e3]

theorem case_blame {M : Mem} {X : List Int32} {x3 : Int32} {a1 a2 a3 a4 a5 : Int32} (hI : Inv M) (h1 : scI X (x3 + 1) = some a1) (h2 : scI X (x3 + 2) = some a2) (h3 : scI X (x3 + 3) = some a3) (h4 : scI X (x3 + 4) = some a4) (h5 : scI X (x3 + 5) = some a5) : ∃ M2, f_L_law_J1413 lim0 X M 1 255 x3 = some (.inl (x3 + 6, M2)) ∧ Inv M2 := by
  have e0 : shp M 1 = some (.inl 11) := sk_shp hI.1 (by omega) rfl
  obtain ⟨r, M1, M2, e1, e2, e3, hI2⟩ := call_blame hI a1 a2 (if a3 = 0 then 0 else 1) (by split <;> simp)
  refine ⟨M2, ?_, hI2⟩
  by_cases hb : a3 = 0
  · simp only [hb, if_true] at e1 e3
    simp [f_L_law_J1413, f_L_law_J1437, f_L_law_J1464, h1, h2, h3, h4, h5, ob, e0, e1, e2, e3, hb]
  · simp only [hb, if_false] at e1 e3
    simp [f_L_law_J1413, f_L_law_J1437, f_L_law_J1464, h1, h2, h3, h4, h5, ob, e0, e1, e2, e3, hb]

theorem case_duty {M : Mem} {X : List Int32} {x3 : Int32} {a1 a2 a3 a4 a5 : Int32} (hI : Inv M) (h1 : scI X (x3 + 1) = some a1) (h2 : scI X (x3 + 2) = some a2) (h3 : scI X (x3 + 3) = some a3) (h4 : scI X (x3 + 4) = some a4) (h5 : scI X (x3 + 5) = some a5) : ∃ M2, f_L_law_J1472 lim0 X M 1 255 x3 = some (.inl (x3 + 6, M2)) ∧ Inv M2 := by
  have e0 : shp M 1 = some (.inl 11) := sk_shp hI.1 (by omega) rfl
  obtain ⟨r, M1, M2, e1, e2, e3, hI2⟩ := call_duty hI a1 a2 a3 
  refine ⟨M2, ?_, hI2⟩
  simp [f_L_law_J1472, h1, h2, h3, h4, h5, ob, e0, e1, e2, e3]

theorem case_passed {M : Mem} {X : List Int32} {x3 : Int32} {a1 a2 a3 a4 a5 : Int32} (hI : Inv M) (h1 : scI X (x3 + 1) = some a1) (h2 : scI X (x3 + 2) = some a2) (h3 : scI X (x3 + 3) = some a3) (h4 : scI X (x3 + 4) = some a4) (h5 : scI X (x3 + 5) = some a5) : ∃ M2, f_L_law_J1515 lim0 X M 1 255 x3 = some (.inl (x3 + 6, M2)) ∧ Inv M2 := by
  have e0 : shp M 1 = some (.inl 11) := sk_shp hI.1 (by omega) rfl
  obtain ⟨r, M1, M2, e1, e2, e3, hI2⟩ := call_passed hI a1 a2 a3 
  refine ⟨M2, ?_, hI2⟩
  obtain ⟨e1, rfl⟩ := e1
  simp [f_L_law_J1515, h1, h2, h3, h4, h5, ob, e0, e1, e2, e3]

theorem case_tied {M : Mem} {X : List Int32} {x3 : Int32} {a1 a2 a3 a4 a5 : Int32} (hI : Inv M) (h1 : scI X (x3 + 1) = some a1) (h2 : scI X (x3 + 2) = some a2) (h3 : scI X (x3 + 3) = some a3) (h4 : scI X (x3 + 4) = some a4) (h5 : scI X (x3 + 5) = some a5) : ∃ M2, f_L_law_J1558 lim0 X M 1 255 x3 = some (.inl (x3 + 6, M2)) ∧ Inv M2 := by
  have e0 : shp M 1 = some (.inl 11) := sk_shp hI.1 (by omega) rfl
  obtain ⟨r, M1, M2, e1, e2, e3, hI2⟩ := call_tied hI a1 a2 
  refine ⟨M2, ?_, hI2⟩
  simp [f_L_law_J1558, h1, h2, h3, h4, h5, ob, e0, e1, e2, e3]

theorem case_empty {M : Mem} {X : List Int32} {x3 : Int32} {a1 a2 a3 a4 a5 : Int32} (hI : Inv M) (h1 : scI X (x3 + 1) = some a1) (h2 : scI X (x3 + 2) = some a2) (h3 : scI X (x3 + 3) = some a3) (h4 : scI X (x3 + 4) = some a4) (h5 : scI X (x3 + 5) = some a5) : ∃ M2, f_L_law_J1591 lim0 X M 1 255 x3 = some (.inl (x3 + 6, M2)) ∧ Inv M2 := by
  have e0 : shp M 1 = some (.inl 11) := sk_shp hI.1 (by omega) rfl
  obtain ⟨r, M1, M2, e1, e2, e3, hI2⟩ := call_empty hI a1 a2 (if a3 = 0 then 0 else 1) (by split <;> simp)
  refine ⟨M2, ?_, hI2⟩
  by_cases hb : a3 = 0
  · simp only [hb, if_true] at e1 e3
    simp [f_L_law_J1591, f_L_law_J1615, f_L_law_J1642, h1, h2, h3, h4, h5, ob, e0, e1, e2, e3, hb, lg_cmp]
  · simp only [hb, if_false] at e1 e3
    simp [f_L_law_J1591, f_L_law_J1615, f_L_law_J1642, h1, h2, h3, h4, h5, ob, e0, e1, e2, e3, hb, lg_cmp]

theorem case_best {M : Mem} {X : List Int32} {x3 : Int32} {a1 a2 a3 a4 a5 : Int32} (hI : Inv M) (h1 : scI X (x3 + 1) = some a1) (h2 : scI X (x3 + 2) = some a2) (h3 : scI X (x3 + 3) = some a3) (h4 : scI X (x3 + 4) = some a4) (h5 : scI X (x3 + 5) = some a5) : ∃ M2, f_L_law_J1651 lim0 X M 1 255 x3 = some (.inl (x3 + 6, M2)) ∧ Inv M2 := by
  have e0 : shp M 1 = some (.inl 11) := sk_shp hI.1 (by omega) rfl
  obtain ⟨r, M1, M2, e1, e2, e3, hI2⟩ := call_best hI a1 
  refine ⟨M2, ?_, hI2⟩
  simp [f_L_law_J1651, h1, h2, h3, h4, h5, ob, e0, e1, e2, e3]

theorem case_fewer {M : Mem} {X : List Int32} {x3 : Int32} {a1 a2 a3 a4 a5 : Int32} (hI : Inv M) (h1 : scI X (x3 + 1) = some a1) (h2 : scI X (x3 + 2) = some a2) (h3 : scI X (x3 + 3) = some a3) (h4 : scI X (x3 + 4) = some a4) (h5 : scI X (x3 + 5) = some a5) : ∃ M2, f_L_law_J1674 lim0 X M 1 255 x3 = some (.inl (x3 + 6, M2)) ∧ Inv M2 := by
  have e0 : shp M 1 = some (.inl 11) := sk_shp hI.1 (by omega) rfl
  obtain ⟨r, M1, M2, e1, e2, e3, hI2⟩ := call_fewer hI a1 a2 a3 a4 
  refine ⟨M2, ?_, hI2⟩
  simp [f_L_law_J1674, h1, h2, h3, h4, h5, ob, e0, e1, e2, e3]

theorem case_loud {M : Mem} {X : List Int32} {x3 : Int32} {a1 a2 a3 a4 a5 : Int32} (hI : Inv M) (h1 : scI X (x3 + 1) = some a1) (h2 : scI X (x3 + 2) = some a2) (h3 : scI X (x3 + 3) = some a3) (h4 : scI X (x3 + 4) = some a4) (h5 : scI X (x3 + 5) = some a5) : ∃ M2, f_L_law_J1727 lim0 X M 1 255 x3 = some (.inl (x3 + 6, M2)) ∧ Inv M2 := by
  have e0 : shp M 1 = some (.inl 11) := sk_shp hI.1 (by omega) rfl
  obtain ⟨r, M1, M2, e1, e2, e3, hI2⟩ := call_loud hI a1 (if a2 = 0 then 0 else 1) (by split <;> simp)
  refine ⟨M2, ?_, hI2⟩
  obtain ⟨e1, rfl⟩ := e1
  by_cases hb : a2 = 0
  · simp only [hb, if_true] at e1 e3
    simp [f_L_law_J1727, f_L_law_J1746, f_L_law_J1768, h1, h2, h3, h4, h5, ob, e0, e1, e2, e3, hb]
  · simp only [hb, if_false] at e1 e3
    simp [f_L_law_J1727, f_L_law_J1746, f_L_law_J1768, h1, h2, h3, h4, h5, ob, e0, e1, e2, e3, hb]

theorem case_count {M : Mem} {X : List Int32} {x3 : Int32} {a1 a2 a3 a4 a5 : Int32} (hI : Inv M) (h1 : scI X (x3 + 1) = some a1) (h2 : scI X (x3 + 2) = some a2) (h3 : scI X (x3 + 3) = some a3) (h4 : scI X (x3 + 4) = some a4) (h5 : scI X (x3 + 5) = some a5) : ∃ M2, f_L_law_J1776 lim0 X M 1 255 x3 = some (.inl (x3 + 6, M2)) ∧ Inv M2 := by
  have e0 : shp M 1 = some (.inl 11) := sk_shp hI.1 (by omega) rfl
  obtain ⟨r, M1, M2, e1, e2, e3, hI2⟩ := call_count hI a1 
  refine ⟨M2, ?_, hI2⟩
  obtain ⟨e1, rfl⟩ := e1
  obtain ⟨e3, rfl⟩ := e3
  simp [f_L_law_J1776, h1, h2, h3, h4, h5, ob, e0, e1, e2, e3]

theorem case_image {M : Mem} {X : List Int32} {x3 : Int32} {a1 a2 a3 a4 a5 : Int32} (hI : Inv M) (h1 : scI X (x3 + 1) = some a1) (h2 : scI X (x3 + 2) = some a2) (h3 : scI X (x3 + 3) = some a3) (h4 : scI X (x3 + 4) = some a4) (h5 : scI X (x3 + 5) = some a5) : ∃ M2, f_L_law_J1799 lim0 X M 1 255 x3 = some (.inl (x3 + 6, M2)) ∧ Inv M2 := by
  have e0 : shp M 1 = some (.inl 11) := sk_shp hI.1 (by omega) rfl
  obtain ⟨r, M1, M2, e1, e2, e3, hI2⟩ := call_image hI a1 
  refine ⟨M2, ?_, hI2⟩
  simp [f_L_law_J1799, h1, h2, h3, h4, h5, ob, e0, e1, e2, e3]

theorem case_again {M : Mem} {X : List Int32} {x3 : Int32} {a1 a2 a3 a4 a5 : Int32} (hI : Inv M) (h1 : scI X (x3 + 1) = some a1) (h2 : scI X (x3 + 2) = some a2) (h3 : scI X (x3 + 3) = some a3) (h4 : scI X (x3 + 4) = some a4) (h5 : scI X (x3 + 5) = some a5) : ∃ M2, f_L_law_J1822 lim0 X M 1 255 x3 = some (.inl (x3 + 6, M2)) ∧ Inv M2 := by
  have e0 : shp M 1 = some (.inl 11) := sk_shp hI.1 (by omega) rfl
  obtain ⟨r, M1, M2, e1, e2, e3, hI2⟩ := call_again hI a1 
  refine ⟨M2, ?_, hI2⟩
  simp [f_L_law_J1822, h1, h2, h3, h4, h5, ob, e0, e1, e2, e3]
theorem ite_ex {β : Type} {y : Mem → β} {P : Mem → Prop} {c : Prop} [Decidable c] {a b : Option β} (ha : ∃ M2, a = some (y M2) ∧ P M2) (hb : ∃ M2, b = some (y M2) ∧ P M2) : ∃ M2, (if c then a else b) = some (y M2) ∧ P M2 := by
  by_cases h : c
  · rw [if_pos h]; exact ha
  · rw [if_neg h]; exact hb
theorem sc_at {X : List Int32} {k : Nat} (h : k < X.length) (hX : X.length ≤ 3072) : scI X (nI k) = some X[k] := by
  have h1 : ¬ nI k < 0 := nI_pos (by omega)
  simp [scI, h1, nI_clamp (show k < 2 ^ 31 by omega), h]
theorem law_body {X : List Int32} (hX : X.length ≤ 3072) {M : Mem} {k : Nat} (hk : k + 6 ≤ X.length) (hI : Inv M) : ∃ M2, f_L_law_B18 lim0 X M 1 255 (nI k) = some (.inl (nI (k + 6), M2)) ∧ Inv M2 := by
  have e : ∀ j : Nat, nI k + nI j = nI (k + j) := fun j => nI_add k j
  have hc : ¬ (Int32.ofNat X.length - 6 < nI k) := by
    have e1 : Int32.ofNat X.length - 6 = nI (X.length - 6) := pk_sub (a := X.length) (b := 6) (by omega)
    rw [e1]
    exact nI_nlt (by omega) (by omega)
  have h0 := sc_at (X := X) (k := k) (by omega) hX
  have g : ∀ j : Nat, j < 6 → ∀ v : Int32, v = nI j → ∃ a, scI X (nI k + v) = some a := fun j hj v hv => ⟨X[k + j]'(by omega), by rw [hv, e j]; exact sc_at (by omega) hX⟩
  obtain ⟨a1, h1⟩ := g 1 (by omega) 1 rfl
  obtain ⟨a2, h2⟩ := g 2 (by omega) 2 rfl
  obtain ⟨a3, h3⟩ := g 3 (by omega) 3 rfl
  obtain ⟨a4, h4⟩ := g 4 (by omega) 4 rfl
  obtain ⟨a5, h5⟩ := g 5 (by omega) 5 rfl
  have e6 : nI k + 6 = nI (k + 6) := e 6
  rw [← e6]
  unfold f_L_law_B18
  rw [if_neg hc, h0]
  simp only [Option.bind_some]
  refine ite_ex (case_feed hI h1 h2 h3 h4 h5) ?_
  refine ite_ex (case_end hI h1 h2 h3 h4 h5) ?_
  refine ite_ex (case_text hI h1 h2 h3 h4 h5) ?_
  refine ite_ex (case_fault hI h1 h2 h3 h4 h5) ?_
  refine ite_ex (case_office hI h1 h2 h3 h4 h5) ?_
  refine ite_ex (case_deed hI h1 h2 h3 h4 h5) ?_
  refine ite_ex (case_stop hI h1 h2 h3 h4 h5) ?_
  refine ite_ex (case_state hI h1 h2 h3 h4 h5) ?_
  refine ite_ex (case_who hI h1 h2 h3 h4 h5) ?_
  refine ite_ex (case_enough hI h1 h2 h3 h4 h5) ?_
  refine ite_ex (case_odds hI h1 h2 h3 h4 h5) ?_
  refine ite_ex (case_mean hI h1 h2 h3 h4 h5) ?_
  refine ite_ex (case_rest hI h1 h2 h3 h4 h5) ?_
  refine ite_ex (case_button hI h1 h2 h3 h4 h5) ?_
  refine ite_ex (case_fact hI h1 h2 h3 h4 h5) ?_
  refine ite_ex (case_fits hI h1 h2 h3 h4 h5) ?_
  refine ite_ex (case_drawn hI h1 h2 h3 h4 h5) ?_
  refine ite_ex (case_lunch hI h1 h2 h3 h4 h5) ?_
  refine ite_ex (case_rule hI h1 h2 h3 h4 h5) ?_
  refine ite_ex (case_board hI h1 h2 h3 h4 h5) ?_
  refine ite_ex (case_rooms hI h1 h2 h3 h4 h5) ?_
  refine ite_ex (case_seat hI h1 h2 h3 h4 h5) ?_
  refine ite_ex (case_quiet hI h1 h2 h3 h4 h5) ?_
  refine ite_ex (case_given hI h1 h2 h3 h4 h5) ?_
  refine ite_ex (case_curve hI h1 h2 h3 h4 h5) ?_
  refine ite_ex (case_ears hI h1 h2 h3 h4 h5) ?_
  refine ite_ex (case_order hI h1 h2 h3 h4 h5) ?_
  refine ite_ex (case_after hI h1 h2 h3 h4 h5) ?_
  refine ite_ex (case_blame hI h1 h2 h3 h4 h5) ?_
  refine ite_ex (case_duty hI h1 h2 h3 h4 h5) ?_
  refine ite_ex (case_passed hI h1 h2 h3 h4 h5) ?_
  refine ite_ex (case_tied hI h1 h2 h3 h4 h5) ?_
  refine ite_ex (case_empty hI h1 h2 h3 h4 h5) ?_
  refine ite_ex (case_best hI h1 h2 h3 h4 h5) ?_
  refine ite_ex (case_fewer hI h1 h2 h3 h4 h5) ?_
  refine ite_ex (case_loud hI h1 h2 h3 h4 h5) ?_
  refine ite_ex (case_count hI h1 h2 h3 h4 h5) ?_
  refine ite_ex (case_image hI h1 h2 h3 h4 h5) ?_
  refine ite_ex (case_again hI h1 h2 h3 h4 h5) ?_
  exact ⟨M, rfl, hI⟩
theorem law_loop {X : List Int32} (hX : X.length ≤ 3072) {M : Mem} (hI : Inv M) : ∃ M2, f_L_law_L18 lim0 X M 1 255 0 = some M2 := by
  obtain ⟨r, h, -⟩ := iter_inv (f := fun s : Int32 × Mem => f_L_law_B18 lim0 X s.2 1 255 s.1) (fun s => ∃ k, k ≤ X.length + 5 ∧ s.1 = nI k ∧ Inv s.2) (fun s => 4000 - s.1.toNatClampNeg) (fun _ => True) (fun s hs => by
    obtain ⟨k, hk, e, hI⟩ := hs
    obtain ⟨x, M⟩ := s
    dsimp only at e hI
    subst e
    by_cases h6 : k + 6 ≤ X.length
    · obtain ⟨M2, h1, h2⟩ := law_body hX h6 hI
      refine Or.inl ⟨(nI (k + 6), M2), h1, ⟨k + 6, by omega, rfl, h2⟩, ?_⟩
      dsimp only
      rw [nI_clamp (by omega), nI_clamp (by omega)]
      omega
    · refine Or.inr ⟨M, ?_, trivial⟩
      have hc : Int32.ofNat X.length - 6 < nI k := by
        by_cases h7 : 6 ≤ X.length
        · have e1 : Int32.ofNat X.length - 6 = nI (X.length - 6) := pk_sub (a := X.length) (b := 6) h7
          rw [e1]
          exact nI_lt (by omega) (by omega)
        · have e1 : Int32.ofNat X.length - 6 < 0 := pk_sneg (a := X.length) (b := 6) (by omega) (by omega)
          rw [Int32.lt_iff_toInt_lt] at e1 ⊢
          have e2 := nI_toInt (n := k) (by omega)
          rw [e2]
          have e3 : (0 : Int32).toInt = 0 := rfl
          omega
      show f_L_law_B18 lim0 X M 1 255 (nI k) = _
      unfold f_L_law_B18
      rw [if_pos hc]) 1048576 (0, M) ⟨0, by omega, nI_0.symm, hI⟩ (by show 4000 - _ < 1048576; omega)
  exact ⟨r, h⟩
theorem law_true : ∀ X : List Int32, X.length ≤ 3072 → ∃ M, f_L_law (300, 17000) X Mem0 = some M := by
  intro X hX
  obtain ⟨M, hM, hS, hI, h3⟩ := ini_ok
  obtain ⟨M9, hL⟩ := law_loop hX (inv_ini hS hI h3)
  have hlen := ini_len
  unfold ini at hM
  obtain ⟨M2, g1, hM⟩ := Option.bind_eq_some_iff.mp hM
  rw [g1] at hlen
  unfold ini1 at g1
  obtain ⟨z1, g2, g1⟩ := Option.bind_eq_some_iff.mp g1
  obtain ⟨u1, g3, g1⟩ := Option.bind_eq_some_iff.mp g1
  obtain ⟨u2, g4, g1⟩ := Option.bind_eq_some_iff.mp g1
  obtain ⟨z3, g5, hM⟩ := Option.bind_eq_some_iff.mp hM
  obtain ⟨u3, g6, hM⟩ := Option.bind_eq_some_iff.mp hM
  obtain ⟨u4, g7, hM⟩ := Option.bind_eq_some_iff.mp hM
  have e1 : z1.1 = 1 := by rw [(newS_le g2).2]; rfl
  have e3 : z3.1 = 255 := by
    rw [(newS_le g5).2]
    show M2.2.2.2.length + 1 = 255
    have : M2.2.2.2.length = 254 := by simpa using hlen
    omega
  refine ⟨M9, ?_⟩
  show f_L_law lim0 X Mem0 = some M9
  unfold f_L_law
  rw [g2]
  simp only [Option.bind_some]
  rw [g3, g4]
  simp only [Option.bind_some]
  rw [g1]
  simp only [Option.bind_some]
  rw [g5]
  simp only [Option.bind_some]
  rw [g6, g7]
  simp only [Option.bind_some]
  rw [hM]
  simp only [Option.bind_some]
  rw [e1, e3, hL]
  rfl
