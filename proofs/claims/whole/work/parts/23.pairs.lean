/-! ===== each pair of calls, in terms of what is wanted ===== -/
theorem pw_sheet {I : St → Prop} (h : ∀ T, I T → ∀ (p0 : Int32) (p1 : Int32) (p2 : Int32), wp_x_sheet T p0 p1 p2 (fun r => wp_m_sheet r.2 p0 p1 p2 (fun q => r.1 = q.1 ∧ I q.2))) : P_sheet I := by
  intro T hI p0 p1 p2
  have a := so_x_sheet (T := T) p0 p1 p2 (h T hI p0 p1 p2)
  obtain ⟨a1, a⟩ := a
  have b := so_m_sheet p0 p1 p2 a
  obtain ⟨b1, b⟩ := b
  exact ⟨a1, b1, b.1, b.2⟩
theorem pw_set {I : St → Prop} (h : ∀ T, I T → ∀ (p0 : Int32) (p1 : Int32) (p2 : Int32), wp_x_set T p0 p1 p2 (fun r => wp_m_set r.2 p0 p1 p2 (fun q => r.1 = q.1 ∧ I q.2))) : P_set I := by
  intro T hI p0 p1 p2
  have a := so_x_set (T := T) p0 p1 p2 (h T hI p0 p1 p2)
  obtain ⟨a1, a⟩ := a
  have b := so_m_set p0 p1 p2 a
  obtain ⟨b1, b⟩ := b
  exact ⟨a1, b1, b.1, b.2⟩
theorem pw_copy {I : St → Prop} (h : ∀ T, I T → ∀ (p0 : Int32) (p1 : Int32) (p2 : Int32) (p3 : Int32) (p4 : Int32), wp_x_copy T p0 p1 p2 p3 p4 (fun r => wp_m_copy r.2 p0 p1 p2 p3 p4 (fun q => r.1 = q.1 ∧ I q.2))) : P_copy I := by
  intro T hI p0 p1 p2 p3 p4
  have a := so_x_copy (T := T) p0 p1 p2 p3 p4 (h T hI p0 p1 p2 p3 p4)
  obtain ⟨a1, a⟩ := a
  have b := so_m_copy p0 p1 p2 p3 p4 a
  obtain ⟨b1, b⟩ := b
  exact ⟨a1, b1, b.1, b.2⟩
theorem pw_drop {I : St → Prop} (h : ∀ T, I T → ∀ (p0 : Int32), wp_x_drop T p0 (fun r => wp_m_drop r.2 p0 (fun q => r.1 = q.1 ∧ I q.2))) : P_drop I := by
  intro T hI p0
  have a := so_x_drop (T := T) p0 (h T hI p0)
  obtain ⟨a1, a⟩ := a
  have b := so_m_drop p0 a
  obtain ⟨b1, b⟩ := b
  exact ⟨a1, b1, b.1, b.2⟩
theorem pw_feed {I : St → Prop} (h : ∀ T, I T → ∀ (p0 : Int64) (p1 : Int32), wp_x_feed T p0 p1 (fun r => wp_m_feed r.2 p0 p1 (fun q => r.1 = q.1 ∧ I q.2))) : P_feed I := by
  intro T hI p0 p1
  have a := so_x_feed (T := T) p0 p1 (h T hI p0 p1)
  obtain ⟨a1, a⟩ := a
  have b := so_m_feed p0 p1 a
  obtain ⟨b1, b⟩ := b
  exact ⟨a1, b1, b.1, b.2⟩
theorem pw_book {I : St → Prop} (h : ∀ T, I T → wp_x_book T  (fun r => wp_m_book r.2  (fun q => r.1 = q.1 ∧ I q.2))) : P_book I := by
  intro T hI 
  have a := so_x_book (T := T)  (h T hI )
  obtain ⟨a1, a⟩ := a
  have b := so_m_book  a
  obtain ⟨b1, b⟩ := b
  exact ⟨a1, b1, b.1, b.2⟩
theorem pw_fault {I : St → Prop} (h : ∀ T, I T → wp_x_fault T  (fun r => wp_m_fault T  (fun q => r = q.1 ∧ I q.2))) : P_fault I := by
  intro T hI 
  have a := so_x_fault (T := T)  (h T hI )
  skip
  have b := so_m_fault  a
  skip
  exact ⟨b.1, b.2⟩
theorem pw_dish {I : St → Prop} (h : ∀ T, I T → ∀ (p0 : Int32) (p1 : Int32), wp_x_dish T p0 p1 (fun r => wp_m_dish T p0 p1 (fun q => r = q.1 ∧ I q.2))) : P_dish I := by
  intro T hI p0 p1
  have a := so_x_dish (T := T) p0 p1 (h T hI p0 p1)
  obtain ⟨a1, a⟩ := a
  have b := so_m_dish p0 p1 a
  obtain ⟨b1, b⟩ := b
  exact ⟨a1, b1, b.1, b.2⟩
theorem pw_step {I : St → Prop} (h : ∀ T, I T → ∀ (p0 : Int32) (p1 : Int32), wp_x_step T p0 p1 (fun r => wp_m_step T p0 p1 (fun q => r = q.1 ∧ I q.2))) : P_step I := by
  intro T hI p0 p1
  have a := so_x_step (T := T) p0 p1 (h T hI p0 p1)
  obtain ⟨a1, a⟩ := a
  have b := so_m_step p0 p1 a
  obtain ⟨b1, b⟩ := b
  exact ⟨a1, b1, b.1, b.2⟩
theorem pw_gives {I : St → Prop} (h : ∀ T, I T → ∀ (p0 : Int32) (p1 : Int32), wp_x_gives T p0 p1 (fun r => wp_m_gives T p0 p1 (fun q => r = q.1 ∧ I q.2))) : P_gives I := by
  intro T hI p0 p1
  have a := so_x_gives (T := T) p0 p1 (h T hI p0 p1)
  obtain ⟨a1, a⟩ := a
  have b := so_m_gives p0 p1 a
  obtain ⟨b1, b⟩ := b
  exact ⟨a1, b1, b.1, b.2⟩
theorem pw_dinner {I : St → Prop} (h : ∀ T, I T → ∀ (p0 : Int32), wp_x_dinner T p0 (fun r => wp_m_dinner r.2 p0 (fun q => r.1 = q.1 ∧ I q.2))) : P_dinner I := by
  intro T hI p0
  have a := so_x_dinner (T := T) p0 (h T hI p0)
  obtain ⟨a1, a⟩ := a
  have b := so_m_dinner p0 a
  obtain ⟨b1, b⟩ := b
  exact ⟨a1, b1, b.1, b.2⟩
theorem pw_out {I : St → Prop} (h : ∀ T, I T → ∀ (p0 : Int32), wp_x_out T p0 (fun r => wp_m_out r.2 p0 (fun q => r.1 = q.1 ∧ I q.2))) : P_out I := by
  intro T hI p0
  have a := so_x_out (T := T) p0 (h T hI p0)
  obtain ⟨a1, a⟩ := a
  have b := so_m_out p0 a
  skip
  exact ⟨a1, b.1, b.2⟩
theorem pw_judge {I : St → Prop} (h : ∀ T, I T → ∀ (p0 : Int32) (p1 : Int32) (p2 : Int32), wp_x_judge T p0 p1 p2 (fun r => wp_m_judge r.2 p0 p1 p2 (fun q => r.1 = q.1 ∧ I q.2))) : P_judge I := by
  intro T hI p0 p1 p2
  have a := so_x_judge (T := T) p0 p1 p2 (h T hI p0 p1 p2)
  obtain ⟨a1, a⟩ := a
  have b := so_m_judge p0 p1 p2 a
  obtain ⟨b1, b⟩ := b
  exact ⟨a1, b1, b.1, b.2⟩
theorem pw_least {I : St → Prop} (h : ∀ T, I T → ∀ (p0 : Int32) (p1 : Int32), wp_x_least T p0 p1 (fun r => wp_m_least r.2 p0 p1 (fun q => r.1 = q.1 ∧ I q.2))) : P_least I := by
  intro T hI p0 p1
  have a := so_x_least (T := T) p0 p1 (h T hI p0 p1)
  obtain ⟨a1, a⟩ := a
  have b := so_m_least p0 p1 a
  obtain ⟨b1, b⟩ := b
  exact ⟨a1, b1, b.1, b.2⟩
theorem pw_begins {I : St → Prop} (h : ∀ T, I T → ∀ (p0 : Int32) (p1 : Int32), wp_x_begins T p0 p1 (fun r => wp_m_begins r.2 p0 p1 (fun q => r.1 = q.1 ∧ I q.2))) : P_begins I := by
  intro T hI p0 p1
  have a := so_x_begins (T := T) p0 p1 (h T hI p0 p1)
  obtain ⟨a1, a⟩ := a
  have b := so_m_begins p0 p1 a
  obtain ⟨b1, b⟩ := b
  exact ⟨a1, b1, b.1, b.2⟩
theorem pw_seven {I : St → Prop} (h : ∀ T, I T → ∀ (p0 : Int32), wp_x_seven T p0 (fun r => wp_m_seven r.2 p0 (fun q => r.1 = q.1 ∧ I q.2))) : P_seven I := by
  intro T hI p0
  have a := so_x_seven (T := T) p0 (h T hI p0)
  obtain ⟨a1, a⟩ := a
  have b := so_m_seven p0 a
  obtain ⟨b1, b⟩ := b
  exact ⟨a1, b1, b.1, b.2⟩
theorem pw_earliest {I : St → Prop} (h : ∀ T, I T → wp_x_earliest T  (fun r => wp_m_earliest r.2  (fun q => r.1 = q.1 ∧ I q.2))) : P_earliest I := by
  intro T hI 
  have a := so_x_earliest (T := T)  (h T hI )
  obtain ⟨a1, a⟩ := a
  have b := so_m_earliest  a
  obtain ⟨b1, b⟩ := b
  exact ⟨a1, b1, b.1, b.2⟩
theorem pw_heat {I : St → Prop} (h : ∀ T, I T → ∀ (p0 : Int32) (p1 : Int32), wp_x_heat T p0 p1 (fun r => wp_m_heat r.2 p0 p1 (fun q => r.1 = q.1 ∧ I q.2))) : P_heat I := by
  intro T hI p0 p1
  have a := so_x_heat (T := T) p0 p1 (h T hI p0 p1)
  obtain ⟨a1, a⟩ := a
  have b := so_m_heat p0 p1 a
  obtain ⟨b1, b⟩ := b
  exact ⟨a1, b1, b.1, b.2⟩
theorem pw_wanted {I : St → Prop} (h : ∀ T, I T → ∀ (p0 : Int32) (p1 : Int32) (p2 : Int32), wp_x_wanted T p0 p1 p2 (fun r => wp_m_wanted r.2 p0 p1 p2 (fun q => r.1 = q.1 ∧ I q.2))) : P_wanted I := by
  intro T hI p0 p1 p2
  have a := so_x_wanted (T := T) p0 p1 p2 (h T hI p0 p1 p2)
  obtain ⟨a1, a⟩ := a
  have b := so_m_wanted p0 p1 p2 a
  obtain ⟨b1, b⟩ := b
  exact ⟨a1, b1, b.1, b.2⟩
theorem pw_dinners {I : St → Prop} (h : ∀ T, I T → ∀ (p0 : Int32) (p1 : Int32) (p2 : Int32), wp_x_dinners T p0 p1 p2 (fun r => wp_m_dinners r.2 p0 p1 p2 (fun q => r.1 = q.1 ∧ I q.2))) : P_dinners I := by
  intro T hI p0 p1 p2
  have a := so_x_dinners (T := T) p0 p1 p2 (h T hI p0 p1 p2)
  obtain ⟨a1, a⟩ := a
  have b := so_m_dinners p0 p1 p2 a
  obtain ⟨b1, b⟩ := b
  exact ⟨a1, b1, b.1, b.2⟩
theorem pw_more {I : St → Prop} (h : ∀ T, I T → ∀ (p0 : Int32), wp_x_more T p0 (fun r => wp_m_more r.2 p0 (fun q => r.1 = q.1 ∧ I q.2))) : P_more I := by
  intro T hI p0
  have a := so_x_more (T := T) p0 (h T hI p0)
  obtain ⟨a1, a⟩ := a
  have b := so_m_more p0 a
  obtain ⟨b1, b⟩ := b
  exact ⟨a1, b1, b.1, b.2⟩
theorem pw_mend {I : St → Prop} (h : ∀ T, I T → ∀ (p0 : Int32) (p1 : Int32), wp_x_mend T p0 p1 (fun r => wp_m_mend r.2 p0 p1 (fun q => r.1 = q.1 ∧ I q.2))) : P_mend I := by
  intro T hI p0 p1
  have a := so_x_mend (T := T) p0 p1 (h T hI p0 p1)
  obtain ⟨a1, a⟩ := a
  have b := so_m_mend p0 p1 a
  obtain ⟨b1, b⟩ := b
  exact ⟨a1, b1, b.1, b.2⟩
theorem pw_slack {I : St → Prop} (h : ∀ T, I T → ∀ (p0 : Int32) (p1 : Int32), wp_x_slack T p0 p1 (fun r => wp_m_slack r.2 p0 p1 (fun q => r.1 = q.1 ∧ I q.2))) : P_slack I := by
  intro T hI p0 p1
  have a := so_x_slack (T := T) p0 p1 (h T hI p0 p1)
  obtain ⟨a1, a⟩ := a
  have b := so_m_slack p0 p1 a
  obtain ⟨b1, b⟩ := b
  exact ⟨a1, b1, b.1, b.2⟩
theorem pw_bears {I : St → Prop} (h : ∀ T, I T → ∀ (p0 : Int32) (p1 : Int32) (p2 : Int32), wp_x_bears T p0 p1 p2 (fun r => wp_m_bears r.2 p0 p1 p2 (fun q => r.1 = q.1 ∧ I q.2))) : P_bears I := by
  intro T hI p0 p1 p2
  have a := so_x_bears (T := T) p0 p1 p2 (h T hI p0 p1 p2)
  obtain ⟨a1, a⟩ := a
  have b := so_m_bears p0 p1 p2 a
  obtain ⟨b1, b⟩ := b
  exact ⟨a1, b1, b.1, b.2⟩
theorem pw_mind {I : St → Prop} (h : ∀ T, I T → ∀ (p0 : Int32) (p1 : Int32), wp_x_mind T p0 p1 (fun r => wp_m_mind r.2 p0 p1 (fun q => r.1 = q.1 ∧ I q.2))) : P_mind I := by
  intro T hI p0 p1
  have a := so_x_mind (T := T) p0 p1 (h T hI p0 p1)
  obtain ⟨a1, a⟩ := a
  have b := so_m_mind p0 p1 a
  obtain ⟨b1, b⟩ := b
  exact ⟨a1, b1, b.1, b.2⟩
theorem pw_image {I : St → Prop} (h : ∀ T, I T → ∀ (p0 : Int32), wp_x_image T p0 (fun r => wp_m_image r.2 p0 (fun q => r.1 = q.1 ∧ I q.2))) : P_image I := by
  intro T hI p0
  have a := so_x_image (T := T) p0 (h T hI p0)
  obtain ⟨a1, a⟩ := a
  have b := so_m_image p0 a
  obtain ⟨b1, b⟩ := b
  exact ⟨a1, b1, b.1, b.2⟩
theorem pw_restore {I : St → Prop} (h : ∀ T, I T → ∀ (p0 : Int32), wp_x_restore T p0 (fun r => wp_m_restore r.2 p0 (fun q => r.1 = q.1 ∧ I q.2))) : P_restore I := by
  intro T hI p0
  have a := so_x_restore (T := T) p0 (h T hI p0)
  obtain ⟨a1, a⟩ := a
  have b := so_m_restore p0 a
  obtain ⟨b1, b⟩ := b
  exact ⟨a1, b1, b.1, b.2⟩
theorem pw_kind {I : St → Prop} (h : ∀ T, I T → ∀ (p0 : Int32), wp_x_kind T p0 (fun r => wp_m_kind T p0 (fun q => r = q.1 ∧ I q.2))) : P_kind I := by
  intro T hI p0
  have a := so_x_kind (T := T) p0 (h T hI p0)
  obtain ⟨a1, a⟩ := a
  have b := so_m_kind p0 a
  obtain ⟨b1, b⟩ := b
  exact ⟨a1, b1, b.1, b.2⟩
theorem pw_as {I : St → Prop} (h : ∀ T, I T → ∀ (p0 : Int32) (p1 : Int32), wp_x_as T p0 p1 (fun r => wp_m_as r.2 p0 p1 (fun q => r.1 = q.1 ∧ I q.2))) : P_as I := by
  intro T hI p0 p1
  have a := so_x_as (T := T) p0 p1 (h T hI p0 p1)
  obtain ⟨a1, a⟩ := a
  have b := so_m_as p0 p1 a
  obtain ⟨b1, b⟩ := b
  exact ⟨a1, b1, b.1, b.2⟩
theorem pw_ask {I : St → Prop} (h : ∀ T, I T → ∀ (p0 : Int32) (p1 : Int32), wp_x_ask T p0 p1 (fun r => wp_m_ask r.2 p0 p1 (fun q => r.1 = q.1 ∧ I q.2))) : P_ask I := by
  intro T hI p0 p1
  have a := so_x_ask (T := T) p0 p1 (h T hI p0 p1)
  obtain ⟨a1, a⟩ := a
  have b := so_m_ask p0 p1 a
  obtain ⟨b1, b⟩ := b
  exact ⟨a1, b1, b.1, b.2⟩
theorem pw_trace {I : St → Prop} (h : ∀ T, I T → ∀ (p0 : Int32), wp_x_trace T p0 (fun r => wp_m_trace T p0 (fun q => r = q.1 ∧ I q.2))) : P_trace I := by
  intro T hI p0
  have a := so_x_trace (T := T) p0 (h T hI p0)
  obtain ⟨a1, a⟩ := a
  have b := so_m_trace p0 a
  obtain ⟨b1, b⟩ := b
  exact ⟨a1, b1, b.1, b.2⟩
theorem pw_count {I : St → Prop} (h : ∀ T, I T → ∀ (p0 : Int32), wp_x_count T p0 (fun r => wp_m_count T p0 (fun q => r = q.1 ∧ I q.2))) : P_count I := by
  intro T hI p0
  have a := so_x_count (T := T) p0 (h T hI p0)
  obtain ⟨a1, a⟩ := a
  have b := so_m_count p0 a
  obtain ⟨b1, b⟩ := b
  exact ⟨a1, b1, b.1, b.2⟩
theorem pw_status {I : St → Prop} (h : ∀ T, I T → wp_x_status T  (fun r => wp_m_status T  (fun q => r = q.1 ∧ I q.2))) : P_status I := by
  intro T hI 
  have a := so_x_status (T := T)  (h T hI )
  skip
  have b := so_m_status  a
  skip
  exact ⟨b.1, b.2⟩
