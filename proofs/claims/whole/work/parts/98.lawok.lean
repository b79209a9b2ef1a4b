theorem law_ok : LawOk := by
  obtain ⟨τ1, τ2, e1, e2, hR⟩ := rel_i
  exact ⟨τ1, τ2, e1, e2, fun L xs hL => law_of Rel st_feed st_quay st_night st_month st_fault st_told st_lamp st_singer st_weather st_wakes st_hum st_run st_lit st_dark st_sweep st_round st_signal st_forget st_shows st_lured st_apart st_fewest st_who st_where st_file st_alone st_tuned st_flat st_log st_clear st_judge st_seed st_keep st_goBack hL hR⟩
