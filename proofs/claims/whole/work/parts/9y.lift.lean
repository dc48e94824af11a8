/-! ===== what is kept was read: the other pairs ===== -/
theorem l_sheet : P_sheet Inv2 := by
  intro T hI p0 p1 p2
  obtain ⟨a, b, c, d⟩ := i_sheet T hI.1 p0 p1 p2
  have f1 : Fr (W_x_sheet T p0 p1 p2) T (x_x_sheet T p0 p1 p2).2 := fr_x_sheet _ _ _ a
  have f2 : Fr (W_m_sheet (x_x_sheet T p0 p1 p2).2 p0 p1 p2) (x_x_sheet T p0 p1 p2).2 (x_m_sheet (x_x_sheet T p0 p1 p2).2 p0 p1 p2).2 := fr_m_sheet _ _ _ b
  have h46 := (I_cnt hI.1).1
  have e1 : ∀ k, (x_m_sheet (x_x_sheet T p0 p1 p2).2 p0 p1 p2).2.2.2.1 599 k = T.2.2.1 599 k := fun k => (q_A f2 (by unfold W_m_sheet; omega)).trans (q_A f1 (by unfold W_x_sheet; omega))
  have e2 : (x_m_sheet (x_x_sheet T p0 p1 p2).2 p0 p1 p2).2.1 571 7 = T.1 571 7 := (q_F f2 (by unfold W_m_sheet; omega)).trans (q_F f1 (by unfold W_x_sheet; omega))
  exact ⟨a, b, c, d, fun k hk h => by rw [e2]; exact hI.2 k hk (by rw [← e1 k]; exact h)⟩

theorem l_set : P_set Inv2 := by
  intro T hI p0 p1 p2
  obtain ⟨a, b, c, d⟩ := i_set T hI.1 p0 p1 p2
  have f1 : Fr (W_x_set T p0 p1 p2) T (x_x_set T p0 p1 p2).2 := fr_x_set _ _ _ a
  have f2 : Fr (W_m_set (x_x_set T p0 p1 p2).2 p0 p1 p2) (x_x_set T p0 p1 p2).2 (x_m_set (x_x_set T p0 p1 p2).2 p0 p1 p2).2 := fr_m_set _ _ _ b
  have h46 := (I_cnt hI.1).1
  have e1 : ∀ k, (x_m_set (x_x_set T p0 p1 p2).2 p0 p1 p2).2.2.2.1 599 k = T.2.2.1 599 k := fun k => (q_A f2 (by unfold W_m_set; omega)).trans (q_A f1 (by unfold W_x_set; omega))
  have e2 : (x_m_set (x_x_set T p0 p1 p2).2 p0 p1 p2).2.1 571 7 = T.1 571 7 := (q_F f2 (by unfold W_m_set; omega)).trans (q_F f1 (by unfold W_x_set; omega))
  exact ⟨a, b, c, d, fun k hk h => by rw [e2]; exact hI.2 k hk (by rw [← e1 k]; exact h)⟩

theorem l_copy : P_copy Inv2 := by
  intro T hI p0 p1 p2 p3 p4
  obtain ⟨a, b, c, d⟩ := i_copy T hI.1 p0 p1 p2 p3 p4
  have f1 : Fr (W_x_copy T p0 p1 p2 p3 p4) T (x_x_copy T p0 p1 p2 p3 p4).2 := fr_x_copy _ _ _ _ _ a
  have f2 : Fr (W_m_copy (x_x_copy T p0 p1 p2 p3 p4).2 p0 p1 p2 p3 p4) (x_x_copy T p0 p1 p2 p3 p4).2 (x_m_copy (x_x_copy T p0 p1 p2 p3 p4).2 p0 p1 p2 p3 p4).2 := fr_m_copy _ _ _ _ _ b
  have h46 := (I_cnt hI.1).1
  have e1 : ∀ k, (x_m_copy (x_x_copy T p0 p1 p2 p3 p4).2 p0 p1 p2 p3 p4).2.2.2.1 599 k = T.2.2.1 599 k := fun k => (q_A f2 (by unfold W_m_copy; omega)).trans (q_A f1 (by unfold W_x_copy; omega))
  have e2 : (x_m_copy (x_x_copy T p0 p1 p2 p3 p4).2 p0 p1 p2 p3 p4).2.1 571 7 = T.1 571 7 := (q_F f2 (by unfold W_m_copy; omega)).trans (q_F f1 (by unfold W_x_copy; omega))
  exact ⟨a, b, c, d, fun k hk h => by rw [e2]; exact hI.2 k hk (by rw [← e1 k]; exact h)⟩

theorem l_drop : P_drop Inv2 := by
  intro T hI p0
  obtain ⟨a, b, c, d⟩ := i_drop T hI.1 p0
  have f1 : Fr (W_x_drop T p0) T (x_x_drop T p0).2 := fr_x_drop _ a
  have f2 : Fr (W_m_drop (x_x_drop T p0).2 p0) (x_x_drop T p0).2 (x_m_drop (x_x_drop T p0).2 p0).2 := fr_m_drop _ b
  have h46 := (I_cnt hI.1).1
  have e1 : ∀ k, (x_m_drop (x_x_drop T p0).2 p0).2.2.2.1 599 k = T.2.2.1 599 k := fun k => (q_A f2 (by unfold W_m_drop; omega)).trans (q_A f1 (by unfold W_x_drop; omega))
  have e2 : (x_m_drop (x_x_drop T p0).2 p0).2.1 571 7 = T.1 571 7 := (q_F f2 (by unfold W_m_drop; omega)).trans (q_F f1 (by unfold W_x_drop; omega))
  exact ⟨a, b, c, d, fun k hk h => by rw [e2]; exact hI.2 k hk (by rw [← e1 k]; exact h)⟩

theorem l_feed : P_feed Inv2 := by
  intro T hI p0 p1
  obtain ⟨a, b, c, d⟩ := i_feed T hI.1 p0 p1
  have f1 : Fr (W_x_feed T p0 p1) T (x_x_feed T p0 p1).2 := fr_x_feed _ _ a
  have f2 : Fr (W_m_feed (x_x_feed T p0 p1).2 p0 p1) (x_x_feed T p0 p1).2 (x_m_feed (x_x_feed T p0 p1).2 p0 p1).2 := fr_m_feed _ _ b
  have h46 := (I_cnt hI.1).1
  have e1 : ∀ k, (x_m_feed (x_x_feed T p0 p1).2 p0 p1).2.2.2.1 599 k = T.2.2.1 599 k := fun k => (q_A f2 (by unfold W_m_feed; omega)).trans (q_A f1 (by unfold W_x_feed; omega))
  have e2 : (x_m_feed (x_x_feed T p0 p1).2 p0 p1).2.1 571 7 = T.1 571 7 := (q_F f2 (by unfold W_m_feed; omega)).trans (q_F f1 (by unfold W_x_feed; omega))
  exact ⟨a, b, c, d, fun k hk h => by rw [e2]; exact hI.2 k hk (by rw [← e1 k]; exact h)⟩

theorem l_fault : P_fault Inv2 := by
  intro T hI 
  obtain ⟨c, d⟩ := i_fault T hI.1 
  have f2 : Fr (W_m_fault T ) T (x_m_fault T ).2 := fr_m_fault  
  have e1 : ∀ k, (x_m_fault T ).2.2.2.1 599 k = T.2.2.1 599 k := fun k => q_A f2 (by unfold W_m_fault; omega)
  have e2 : (x_m_fault T ).2.1 571 7 = T.1 571 7 := q_F f2 (by unfold W_m_fault; omega)
  exact ⟨c, d, fun k hk h => by rw [e2]; exact hI.2 k hk (by rw [← e1 k]; exact h)⟩

theorem l_dish : P_dish Inv2 := by
  intro T hI p0 p1
  obtain ⟨a, b, c, d⟩ := i_dish T hI.1 p0 p1
  have f2 : Fr (W_m_dish T p0 p1) T (x_m_dish T p0 p1).2 := fr_m_dish _ _ b
  have e1 : ∀ k, (x_m_dish T p0 p1).2.2.2.1 599 k = T.2.2.1 599 k := fun k => q_A f2 (by unfold W_m_dish; omega)
  have e2 : (x_m_dish T p0 p1).2.1 571 7 = T.1 571 7 := q_F f2 (by unfold W_m_dish; omega)
  exact ⟨a, b, c, d, fun k hk h => by rw [e2]; exact hI.2 k hk (by rw [← e1 k]; exact h)⟩

theorem l_step : P_step Inv2 := by
  intro T hI p0 p1
  obtain ⟨a, b, c, d⟩ := i_step T hI.1 p0 p1
  have f2 : Fr (W_m_step T p0 p1) T (x_m_step T p0 p1).2 := fr_m_step _ _ b
  have e1 : ∀ k, (x_m_step T p0 p1).2.2.2.1 599 k = T.2.2.1 599 k := fun k => q_A f2 (by unfold W_m_step; omega)
  have e2 : (x_m_step T p0 p1).2.1 571 7 = T.1 571 7 := q_F f2 (by unfold W_m_step; omega)
  exact ⟨a, b, c, d, fun k hk h => by rw [e2]; exact hI.2 k hk (by rw [← e1 k]; exact h)⟩

theorem l_gives : P_gives Inv2 := by
  intro T hI p0 p1
  obtain ⟨a, b, c, d⟩ := i_gives T hI.1 p0 p1
  have f2 : Fr (W_m_gives T p0 p1) T (x_m_gives T p0 p1).2 := fr_m_gives _ _ b
  have e1 : ∀ k, (x_m_gives T p0 p1).2.2.2.1 599 k = T.2.2.1 599 k := fun k => q_A f2 (by unfold W_m_gives; omega)
  have e2 : (x_m_gives T p0 p1).2.1 571 7 = T.1 571 7 := q_F f2 (by unfold W_m_gives; omega)
  exact ⟨a, b, c, d, fun k hk h => by rw [e2]; exact hI.2 k hk (by rw [← e1 k]; exact h)⟩

theorem l_dinner : P_dinner Inv2 := by
  intro T hI p0
  obtain ⟨a, b, c, d⟩ := i_dinner T hI.1 p0
  have f1 : Fr (W_x_dinner T p0) T (x_x_dinner T p0).2 := fr_x_dinner _ a
  have f2 : Fr (W_m_dinner (x_x_dinner T p0).2 p0) (x_x_dinner T p0).2 (x_m_dinner (x_x_dinner T p0).2 p0).2 := fr_m_dinner _ b
  have h46 := (I_cnt hI.1).1
  have e1 : ∀ k, (x_m_dinner (x_x_dinner T p0).2 p0).2.2.2.1 599 k = T.2.2.1 599 k := fun k => (q_A f2 (by unfold W_m_dinner; omega)).trans (q_A f1 (by unfold W_x_dinner; omega))
  have e2 : (x_m_dinner (x_x_dinner T p0).2 p0).2.1 571 7 = T.1 571 7 := (q_F f2 (by unfold W_m_dinner; omega)).trans (q_F f1 (by unfold W_x_dinner; omega))
  exact ⟨a, b, c, d, fun k hk h => by rw [e2]; exact hI.2 k hk (by rw [← e1 k]; exact h)⟩

theorem l_out : P_out Inv2 := by
  intro T hI p0
  obtain ⟨a, c, d⟩ := i_out T hI.1 p0
  have f1 : Fr (W_x_out T p0) T (x_x_out T p0).2 := fr_x_out _ a
  have f2 : Fr (W_m_out (x_x_out T p0).2 p0) (x_x_out T p0).2 (x_m_out (x_x_out T p0).2 p0).2 := fr_m_out _ 
  have h46 := (I_cnt hI.1).1
  have e1 : ∀ k, (x_m_out (x_x_out T p0).2 p0).2.2.2.1 599 k = T.2.2.1 599 k := fun k => (q_A f2 (by unfold W_m_out; omega)).trans (q_A f1 (by unfold W_x_out; omega))
  have e2 : (x_m_out (x_x_out T p0).2 p0).2.1 571 7 = T.1 571 7 := (q_F f2 (by unfold W_m_out; omega)).trans (q_F f1 (by unfold W_x_out; omega))
  exact ⟨a, c, d, fun k hk h => by rw [e2]; exact hI.2 k hk (by rw [← e1 k]; exact h)⟩

theorem l_judge : P_judge Inv2 := by
  intro T hI p0 p1 p2
  obtain ⟨a, b, c, d⟩ := i_judge T hI.1 p0 p1 p2
  have f1 : Fr (W_x_judge T p0 p1 p2) T (x_x_judge T p0 p1 p2).2 := fr_x_judge _ _ _ a
  have f2 : Fr (W_m_judge (x_x_judge T p0 p1 p2).2 p0 p1 p2) (x_x_judge T p0 p1 p2).2 (x_m_judge (x_x_judge T p0 p1 p2).2 p0 p1 p2).2 := fr_m_judge _ _ _ b
  have h46 := (I_cnt hI.1).1
  have e1 : ∀ k, (x_m_judge (x_x_judge T p0 p1 p2).2 p0 p1 p2).2.2.2.1 599 k = T.2.2.1 599 k := fun k => (q_A f2 (by unfold W_m_judge; omega)).trans (q_A f1 (by unfold W_x_judge; omega))
  have e2 : (x_m_judge (x_x_judge T p0 p1 p2).2 p0 p1 p2).2.1 571 7 = T.1 571 7 := (q_F f2 (by unfold W_m_judge; omega)).trans (q_F f1 (by unfold W_x_judge; omega))
  exact ⟨a, b, c, d, fun k hk h => by rw [e2]; exact hI.2 k hk (by rw [← e1 k]; exact h)⟩

theorem l_least : P_least Inv2 := by
  intro T hI p0 p1
  obtain ⟨a, b, c, d⟩ := i_least T hI.1 p0 p1
  have f1 : Fr (W_x_least T p0 p1) T (x_x_least T p0 p1).2 := fr_x_least _ _ a
  have f2 : Fr (W_m_least (x_x_least T p0 p1).2 p0 p1) (x_x_least T p0 p1).2 (x_m_least (x_x_least T p0 p1).2 p0 p1).2 := fr_m_least _ _ b
  have h46 := (I_cnt hI.1).1
  have e1 : ∀ k, (x_m_least (x_x_least T p0 p1).2 p0 p1).2.2.2.1 599 k = T.2.2.1 599 k := fun k => (q_A f2 (by unfold W_m_least; omega)).trans (q_A f1 (by unfold W_x_least; omega))
  have e2 : (x_m_least (x_x_least T p0 p1).2 p0 p1).2.1 571 7 = T.1 571 7 := (q_F f2 (by unfold W_m_least; omega)).trans (q_F f1 (by unfold W_x_least; omega))
  exact ⟨a, b, c, d, fun k hk h => by rw [e2]; exact hI.2 k hk (by rw [← e1 k]; exact h)⟩

theorem l_begins : P_begins Inv2 := by
  intro T hI p0 p1
  obtain ⟨a, b, c, d⟩ := i_begins T hI.1 p0 p1
  have f1 : Fr (W_x_begins T p0 p1) T (x_x_begins T p0 p1).2 := fr_x_begins _ _ a
  have f2 : Fr (W_m_begins (x_x_begins T p0 p1).2 p0 p1) (x_x_begins T p0 p1).2 (x_m_begins (x_x_begins T p0 p1).2 p0 p1).2 := fr_m_begins _ _ b
  have h46 := (I_cnt hI.1).1
  have e1 : ∀ k, (x_m_begins (x_x_begins T p0 p1).2 p0 p1).2.2.2.1 599 k = T.2.2.1 599 k := fun k => (q_A f2 (by unfold W_m_begins; omega)).trans (q_A f1 (by unfold W_x_begins; omega))
  have e2 : (x_m_begins (x_x_begins T p0 p1).2 p0 p1).2.1 571 7 = T.1 571 7 := (q_F f2 (by unfold W_m_begins; omega)).trans (q_F f1 (by unfold W_x_begins; omega))
  exact ⟨a, b, c, d, fun k hk h => by rw [e2]; exact hI.2 k hk (by rw [← e1 k]; exact h)⟩

theorem l_seven : P_seven Inv2 := by
  intro T hI p0
  obtain ⟨a, b, c, d⟩ := i_seven T hI.1 p0
  have f1 : Fr (W_x_seven T p0) T (x_x_seven T p0).2 := fr_x_seven _ a
  have f2 : Fr (W_m_seven (x_x_seven T p0).2 p0) (x_x_seven T p0).2 (x_m_seven (x_x_seven T p0).2 p0).2 := fr_m_seven _ b
  have h46 := (I_cnt hI.1).1
  have e1 : ∀ k, (x_m_seven (x_x_seven T p0).2 p0).2.2.2.1 599 k = T.2.2.1 599 k := fun k => (q_A f2 (by unfold W_m_seven; omega)).trans (q_A f1 (by unfold W_x_seven; omega))
  have e2 : (x_m_seven (x_x_seven T p0).2 p0).2.1 571 7 = T.1 571 7 := (q_F f2 (by unfold W_m_seven; omega)).trans (q_F f1 (by unfold W_x_seven; omega))
  exact ⟨a, b, c, d, fun k hk h => by rw [e2]; exact hI.2 k hk (by rw [← e1 k]; exact h)⟩

theorem l_earliest : P_earliest Inv2 := by
  intro T hI 
  obtain ⟨a, b, c, d⟩ := i_earliest T hI.1 
  have f1 : Fr (W_x_earliest T ) T (x_x_earliest T ).2 := fr_x_earliest  a
  have f2 : Fr (W_m_earliest (x_x_earliest T ).2 ) (x_x_earliest T ).2 (x_m_earliest (x_x_earliest T ).2 ).2 := fr_m_earliest  b
  have h46 := (I_cnt hI.1).1
  have e1 : ∀ k, (x_m_earliest (x_x_earliest T ).2 ).2.2.2.1 599 k = T.2.2.1 599 k := fun k => (q_A f2 (by unfold W_m_earliest; omega)).trans (q_A f1 (by unfold W_x_earliest; omega))
  have e2 : (x_m_earliest (x_x_earliest T ).2 ).2.1 571 7 = T.1 571 7 := (q_F f2 (by unfold W_m_earliest; omega)).trans (q_F f1 (by unfold W_x_earliest; omega))
  exact ⟨a, b, c, d, fun k hk h => by rw [e2]; exact hI.2 k hk (by rw [← e1 k]; exact h)⟩

theorem l_heat : P_heat Inv2 := by
  intro T hI p0 p1
  obtain ⟨a, b, c, d⟩ := i_heat T hI.1 p0 p1
  have f1 : Fr (W_x_heat T p0 p1) T (x_x_heat T p0 p1).2 := fr_x_heat _ _ a
  have f2 : Fr (W_m_heat (x_x_heat T p0 p1).2 p0 p1) (x_x_heat T p0 p1).2 (x_m_heat (x_x_heat T p0 p1).2 p0 p1).2 := fr_m_heat _ _ b
  have h46 := (I_cnt hI.1).1
  have e1 : ∀ k, (x_m_heat (x_x_heat T p0 p1).2 p0 p1).2.2.2.1 599 k = T.2.2.1 599 k := fun k => (q_A f2 (by unfold W_m_heat; omega)).trans (q_A f1 (by unfold W_x_heat; omega))
  have e2 : (x_m_heat (x_x_heat T p0 p1).2 p0 p1).2.1 571 7 = T.1 571 7 := (q_F f2 (by unfold W_m_heat; omega)).trans (q_F f1 (by unfold W_x_heat; omega))
  exact ⟨a, b, c, d, fun k hk h => by rw [e2]; exact hI.2 k hk (by rw [← e1 k]; exact h)⟩

theorem l_wanted : P_wanted Inv2 := by
  intro T hI p0 p1 p2
  obtain ⟨a, b, c, d⟩ := i_wanted T hI.1 p0 p1 p2
  have f1 : Fr (W_x_wanted T p0 p1 p2) T (x_x_wanted T p0 p1 p2).2 := fr_x_wanted _ _ _ a
  have f2 : Fr (W_m_wanted (x_x_wanted T p0 p1 p2).2 p0 p1 p2) (x_x_wanted T p0 p1 p2).2 (x_m_wanted (x_x_wanted T p0 p1 p2).2 p0 p1 p2).2 := fr_m_wanted _ _ _ b
  have h46 := (I_cnt hI.1).1
  have e1 : ∀ k, (x_m_wanted (x_x_wanted T p0 p1 p2).2 p0 p1 p2).2.2.2.1 599 k = T.2.2.1 599 k := fun k => (q_A f2 (by unfold W_m_wanted; omega)).trans (q_A f1 (by unfold W_x_wanted; omega))
  have e2 : (x_m_wanted (x_x_wanted T p0 p1 p2).2 p0 p1 p2).2.1 571 7 = T.1 571 7 := (q_F f2 (by unfold W_m_wanted; omega)).trans (q_F f1 (by unfold W_x_wanted; omega))
  exact ⟨a, b, c, d, fun k hk h => by rw [e2]; exact hI.2 k hk (by rw [← e1 k]; exact h)⟩

theorem l_dinners : P_dinners Inv2 := by
  intro T hI p0 p1 p2
  obtain ⟨a, b, c, d⟩ := i_dinners T hI.1 p0 p1 p2
  have f1 : Fr (W_x_dinners T p0 p1 p2) T (x_x_dinners T p0 p1 p2).2 := fr_x_dinners _ _ _ a
  have f2 : Fr (W_m_dinners (x_x_dinners T p0 p1 p2).2 p0 p1 p2) (x_x_dinners T p0 p1 p2).2 (x_m_dinners (x_x_dinners T p0 p1 p2).2 p0 p1 p2).2 := fr_m_dinners _ _ _ b
  have h46 := (I_cnt hI.1).1
  have e1 : ∀ k, (x_m_dinners (x_x_dinners T p0 p1 p2).2 p0 p1 p2).2.2.2.1 599 k = T.2.2.1 599 k := fun k => (q_A f2 (by unfold W_m_dinners; omega)).trans (q_A f1 (by unfold W_x_dinners; omega))
  have e2 : (x_m_dinners (x_x_dinners T p0 p1 p2).2 p0 p1 p2).2.1 571 7 = T.1 571 7 := (q_F f2 (by unfold W_m_dinners; omega)).trans (q_F f1 (by unfold W_x_dinners; omega))
  exact ⟨a, b, c, d, fun k hk h => by rw [e2]; exact hI.2 k hk (by rw [← e1 k]; exact h)⟩

theorem l_more : P_more Inv2 := by
  intro T hI p0
  obtain ⟨a, b, c, d⟩ := i_more T hI.1 p0
  have f1 : Fr (W_x_more T p0) T (x_x_more T p0).2 := fr_x_more _ a
  have f2 : Fr (W_m_more (x_x_more T p0).2 p0) (x_x_more T p0).2 (x_m_more (x_x_more T p0).2 p0).2 := fr_m_more _ b
  have h46 := (I_cnt hI.1).1
  have e1 : ∀ k, (x_m_more (x_x_more T p0).2 p0).2.2.2.1 599 k = T.2.2.1 599 k := fun k => (q_A f2 (by unfold W_m_more; omega)).trans (q_A f1 (by unfold W_x_more; omega))
  have e2 : (x_m_more (x_x_more T p0).2 p0).2.1 571 7 = T.1 571 7 := (q_F f2 (by unfold W_m_more; omega)).trans (q_F f1 (by unfold W_x_more; omega))
  exact ⟨a, b, c, d, fun k hk h => by rw [e2]; exact hI.2 k hk (by rw [← e1 k]; exact h)⟩

theorem l_mend : P_mend Inv2 := by
  intro T hI p0 p1
  obtain ⟨a, b, c, d⟩ := i_mend T hI.1 p0 p1
  have f1 : Fr (W_x_mend T p0 p1) T (x_x_mend T p0 p1).2 := fr_x_mend _ _ a
  have f2 : Fr (W_m_mend (x_x_mend T p0 p1).2 p0 p1) (x_x_mend T p0 p1).2 (x_m_mend (x_x_mend T p0 p1).2 p0 p1).2 := fr_m_mend _ _ b
  have h46 := (I_cnt hI.1).1
  have e1 : ∀ k, (x_m_mend (x_x_mend T p0 p1).2 p0 p1).2.2.2.1 599 k = T.2.2.1 599 k := fun k => (q_A f2 (by unfold W_m_mend; omega)).trans (q_A f1 (by unfold W_x_mend; omega))
  have e2 : (x_m_mend (x_x_mend T p0 p1).2 p0 p1).2.1 571 7 = T.1 571 7 := (q_F f2 (by unfold W_m_mend; omega)).trans (q_F f1 (by unfold W_x_mend; omega))
  exact ⟨a, b, c, d, fun k hk h => by rw [e2]; exact hI.2 k hk (by rw [← e1 k]; exact h)⟩

theorem l_slack : P_slack Inv2 := by
  intro T hI p0 p1
  obtain ⟨a, b, c, d⟩ := i_slack T hI.1 p0 p1
  have f1 : Fr (W_x_slack T p0 p1) T (x_x_slack T p0 p1).2 := fr_x_slack _ _ a
  have f2 : Fr (W_m_slack (x_x_slack T p0 p1).2 p0 p1) (x_x_slack T p0 p1).2 (x_m_slack (x_x_slack T p0 p1).2 p0 p1).2 := fr_m_slack _ _ b
  have h46 := (I_cnt hI.1).1
  have e1 : ∀ k, (x_m_slack (x_x_slack T p0 p1).2 p0 p1).2.2.2.1 599 k = T.2.2.1 599 k := fun k => (q_A f2 (by unfold W_m_slack; omega)).trans (q_A f1 (by unfold W_x_slack; omega))
  have e2 : (x_m_slack (x_x_slack T p0 p1).2 p0 p1).2.1 571 7 = T.1 571 7 := (q_F f2 (by unfold W_m_slack; omega)).trans (q_F f1 (by unfold W_x_slack; omega))
  exact ⟨a, b, c, d, fun k hk h => by rw [e2]; exact hI.2 k hk (by rw [← e1 k]; exact h)⟩

theorem l_bears : P_bears Inv2 := by
  intro T hI p0 p1 p2
  obtain ⟨a, b, c, d⟩ := i_bears T hI.1 p0 p1 p2
  have f1 : Fr (W_x_bears T p0 p1 p2) T (x_x_bears T p0 p1 p2).2 := fr_x_bears _ _ _ a
  have f2 : Fr (W_m_bears (x_x_bears T p0 p1 p2).2 p0 p1 p2) (x_x_bears T p0 p1 p2).2 (x_m_bears (x_x_bears T p0 p1 p2).2 p0 p1 p2).2 := fr_m_bears _ _ _ b
  have h46 := (I_cnt hI.1).1
  have e1 : ∀ k, (x_m_bears (x_x_bears T p0 p1 p2).2 p0 p1 p2).2.2.2.1 599 k = T.2.2.1 599 k := fun k => (q_A f2 (by unfold W_m_bears; omega)).trans (q_A f1 (by unfold W_x_bears; omega))
  have e2 : (x_m_bears (x_x_bears T p0 p1 p2).2 p0 p1 p2).2.1 571 7 = T.1 571 7 := (q_F f2 (by unfold W_m_bears; omega)).trans (q_F f1 (by unfold W_x_bears; omega))
  exact ⟨a, b, c, d, fun k hk h => by rw [e2]; exact hI.2 k hk (by rw [← e1 k]; exact h)⟩

theorem l_mind : P_mind Inv2 := by
  intro T hI p0 p1
  obtain ⟨a, b, c, d⟩ := i_mind T hI.1 p0 p1
  have f1 : Fr (W_x_mind T p0 p1) T (x_x_mind T p0 p1).2 := fr_x_mind _ _ a
  have f2 : Fr (W_m_mind (x_x_mind T p0 p1).2 p0 p1) (x_x_mind T p0 p1).2 (x_m_mind (x_x_mind T p0 p1).2 p0 p1).2 := fr_m_mind _ _ b
  have h46 := (I_cnt hI.1).1
  have e1 : ∀ k, (x_m_mind (x_x_mind T p0 p1).2 p0 p1).2.2.2.1 599 k = T.2.2.1 599 k := fun k => (q_A f2 (by unfold W_m_mind; omega)).trans (q_A f1 (by unfold W_x_mind; omega))
  have e2 : (x_m_mind (x_x_mind T p0 p1).2 p0 p1).2.1 571 7 = T.1 571 7 := (q_F f2 (by unfold W_m_mind; omega)).trans (q_F f1 (by unfold W_x_mind; omega))
  exact ⟨a, b, c, d, fun k hk h => by rw [e2]; exact hI.2 k hk (by rw [← e1 k]; exact h)⟩

theorem l_kind : P_kind Inv2 := by
  intro T hI p0
  obtain ⟨a, b, c, d⟩ := i_kind T hI.1 p0
  have f2 : Fr (W_m_kind T p0) T (x_m_kind T p0).2 := fr_m_kind _ b
  have e1 : ∀ k, (x_m_kind T p0).2.2.2.1 599 k = T.2.2.1 599 k := fun k => q_A f2 (by unfold W_m_kind; omega)
  have e2 : (x_m_kind T p0).2.1 571 7 = T.1 571 7 := q_F f2 (by unfold W_m_kind; omega)
  exact ⟨a, b, c, d, fun k hk h => by rw [e2]; exact hI.2 k hk (by rw [← e1 k]; exact h)⟩

theorem l_as : P_as Inv2 := by
  intro T hI p0 p1
  obtain ⟨a, b, c, d⟩ := i_as T hI.1 p0 p1
  have f1 : Fr (W_x_as T p0 p1) T (x_x_as T p0 p1).2 := fr_x_as _ _ a
  have f2 : Fr (W_m_as (x_x_as T p0 p1).2 p0 p1) (x_x_as T p0 p1).2 (x_m_as (x_x_as T p0 p1).2 p0 p1).2 := fr_m_as _ _ b
  have h46 := (I_cnt hI.1).1
  have e1 : ∀ k, (x_m_as (x_x_as T p0 p1).2 p0 p1).2.2.2.1 599 k = T.2.2.1 599 k := fun k => (q_A f2 (by unfold W_m_as; omega)).trans (q_A f1 (by unfold W_x_as; omega))
  have e2 : (x_m_as (x_x_as T p0 p1).2 p0 p1).2.1 571 7 = T.1 571 7 := (q_F f2 (by unfold W_m_as; omega)).trans (q_F f1 (by unfold W_x_as; omega))
  exact ⟨a, b, c, d, fun k hk h => by rw [e2]; exact hI.2 k hk (by rw [← e1 k]; exact h)⟩

theorem l_ask : P_ask Inv2 := by
  intro T hI p0 p1
  obtain ⟨a, b, c, d⟩ := i_ask T hI.1 p0 p1
  have f1 : Fr (W_x_ask T p0 p1) T (x_x_ask T p0 p1).2 := fr_x_ask _ _ a
  have f2 : Fr (W_m_ask (x_x_ask T p0 p1).2 p0 p1) (x_x_ask T p0 p1).2 (x_m_ask (x_x_ask T p0 p1).2 p0 p1).2 := fr_m_ask _ _ b
  have h46 := (I_cnt hI.1).1
  have e1 : ∀ k, (x_m_ask (x_x_ask T p0 p1).2 p0 p1).2.2.2.1 599 k = T.2.2.1 599 k := fun k => (q_A f2 (by unfold W_m_ask; omega)).trans (q_A f1 (by unfold W_x_ask; omega))
  have e2 : (x_m_ask (x_x_ask T p0 p1).2 p0 p1).2.1 571 7 = T.1 571 7 := (q_F f2 (by unfold W_m_ask; omega)).trans (q_F f1 (by unfold W_x_ask; omega))
  exact ⟨a, b, c, d, fun k hk h => by rw [e2]; exact hI.2 k hk (by rw [← e1 k]; exact h)⟩

theorem l_trace : P_trace Inv2 := by
  intro T hI p0
  obtain ⟨a, b, c, d⟩ := i_trace T hI.1 p0
  have f2 : Fr (W_m_trace T p0) T (x_m_trace T p0).2 := fr_m_trace _ b
  have e1 : ∀ k, (x_m_trace T p0).2.2.2.1 599 k = T.2.2.1 599 k := fun k => q_A f2 (by unfold W_m_trace; omega)
  have e2 : (x_m_trace T p0).2.1 571 7 = T.1 571 7 := q_F f2 (by unfold W_m_trace; omega)
  exact ⟨a, b, c, d, fun k hk h => by rw [e2]; exact hI.2 k hk (by rw [← e1 k]; exact h)⟩

theorem l_count : P_count Inv2 := by
  intro T hI p0
  obtain ⟨a, b, c, d⟩ := i_count T hI.1 p0
  have f2 : Fr (W_m_count T p0) T (x_m_count T p0).2 := fr_m_count _ b
  have e1 : ∀ k, (x_m_count T p0).2.2.2.1 599 k = T.2.2.1 599 k := fun k => q_A f2 (by unfold W_m_count; omega)
  have e2 : (x_m_count T p0).2.1 571 7 = T.1 571 7 := q_F f2 (by unfold W_m_count; omega)
  exact ⟨a, b, c, d, fun k hk h => by rw [e2]; exact hI.2 k hk (by rw [← e1 k]; exact h)⟩

theorem l_status : P_status Inv2 := by
  intro T hI 
  obtain ⟨c, d⟩ := i_status T hI.1 
  have f2 : Fr (W_m_status T ) T (x_m_status T ).2 := fr_m_status  
  have e1 : ∀ k, (x_m_status T ).2.2.2.1 599 k = T.2.2.1 599 k := fun k => q_A f2 (by unfold W_m_status; omega)
  have e2 : (x_m_status T ).2.1 571 7 = T.1 571 7 := q_F f2 (by unfold W_m_status; omega)
  exact ⟨c, d, fun k hk h => by rw [e2]; exact hI.2 k hk (by rw [← e1 k]; exact h)⟩
