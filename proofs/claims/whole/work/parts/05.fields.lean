/-! Fields and calls of each class, their words. Written by wip/gen/segs.py. -/
def kFe (own : String) (idx k j : Nat) : Prop := ∃ N ty, kFL own idx k j N ty ∧ (∀ i, ksh k i = (3, N)) ∧
  (kty k j = 0 → ty = .int ∧ kFP k j) ∧ (kty k j = 1 → ty = .boolean ∧ kFP k j) ∧ (kty k j = 3 → ty = .array .int ∧ kFP k j)
theorem kFe.mk {own : String} {idx k j N : Nat} {ty : FieldType} (h : kFL own idx k j N ty) (h2 : ∀ i, ksh k i = (3, N)) (a : kty k j = 0 → ty = .int ∧ kFP k j) (b : kty k j = 1 → ty = .boolean ∧ kFP k j) (c : kty k j = 3 → ty = .array .int ∧ kFP k j) : kFe own idx k j := ⟨N, ty, h, h2, a, b, c⟩
theorem klookup {l : List (Nat × Nat × Nat)} {idx : Nat} {v : Nat × Nat} (h : l.lookup idx = some v) : (idx, v) ∈ l := by
  induction l with
  | nil => cases h
  | cons a r ih =>
    obtain ⟨k, w⟩ := a
    rw [List.lookup_cons] at h
    split at h
    · rename_i e
      have e1 : idx = k := by simpa using e
      cases h
      rw [e1]
      exact List.mem_cons_self
    · exact List.mem_cons_of_mem _ (ih h)
theorem kFok_of {own : String} {l : List (Nat × Nat × Nat)} (h : ∀ e ∈ l, kFe own e.1 e.2.1 e.2.2) : kFok own (fun idx => l.lookup idx) := fun idx k j hq => h _ (klookup hq)
theorem kdy_get {σ : kS} (h : σ 7 0 7 = 1) : kget σ 7 0 7 = .inr (16, 2) := by
  show (.inr (kdy (σ 7 0 7)) : kV) = _
  rw [h]
  rfl
theorem kz_nar {x : Int} (h : x = 0 ∨ x = 1) : narrow .boolean (.int (Int32.ofInt x)) = .int (Int32.ofInt x) := by rcases h with rfl | rfl <;> rfl
set_option maxRecDepth 100000 in
theorem cd_Ar_fill2 : Cond.code y_Ar_fill2 m_Ar_fill2.2.1 m_Ar_fill2.2.2.1 m_Ar_fill2.2.2.2 ∈ kWS := kmem (i := 250) rfl (by decide +kernel)
set_option maxRecDepth 100000 in
theorem cd_Ar_fill4 : Cond.code y_Ar_fill4 m_Ar_fill4.2.1 m_Ar_fill4.2.2.1 m_Ar_fill4.2.2.2 ∈ kWS := kmem (i := 473) rfl (by decide +kernel)
set_option maxRecDepth 100000 in
theorem cd_Ar_rangeCheck : Cond.code y_Ar_rangeCheck m_Ar_rangeCheck.2.1 m_Ar_rangeCheck.2.2.1 m_Ar_rangeCheck.2.2.2 ∈ kWS := kmem (i := 476) rfl (by decide +kernel)
set_option maxRecDepth 100000 in
theorem cd_Cl_append : Cond.code y_Cl_append m_Cl_append.2.1 m_Cl_append.2.2.1 m_Cl_append.2.2.2 ∈ kWS := kmem (i := 656) rfl (by decide +kernel)
set_option maxRecDepth 100000 in
theorem cd_Cl_appendNew : Cond.code y_Cl_appendNew m_Cl_appendNew.2.1 m_Cl_appendNew.2.2.1 m_Cl_appendNew.2.2.2 ∈ kWS := kmem (i := 660) rfl (by decide +kernel)
set_option maxRecDepth 100000 in
theorem cd_Cl_begin : Cond.code y_Cl_begin m_Cl_begin.2.1 m_Cl_begin.2.2.1 m_Cl_begin.2.2.2 ∈ kWS := kmem (i := 513) rfl (by decide +kernel)
set_option maxRecDepth 100000 in
theorem cd_Cl_build : Cond.code y_Cl_build m_Cl_build.2.1 m_Cl_build.2.2.1 m_Cl_build.2.2.2 ∈ kWS := kmem (i := 652) rfl (by decide +kernel)
set_option maxRecDepth 100000 in
theorem cd_Cl_carryOut : Cond.code y_Cl_carryOut m_Cl_carryOut.2.1 m_Cl_carryOut.2.2.1 m_Cl_carryOut.2.2.2 ∈ kWS := kmem (i := 559) rfl (by decide +kernel)
set_option maxRecDepth 100000 in
theorem cd_Cl_change : Cond.code y_Cl_change m_Cl_change.2.1 m_Cl_change.2.2.1 m_Cl_change.2.2.2 ∈ kWS := kmem (i := 614) rfl (by decide +kernel)
set_option maxRecDepth 100000 in
theorem cd_Cl_deleteLines : Cond.code y_Cl_deleteLines m_Cl_deleteLines.2.1 m_Cl_deleteLines.2.2.1 m_Cl_deleteLines.2.2.2 ∈ kWS := kmem (i := 626) rfl (by decide +kernel)
set_option maxRecDepth 100000 in
theorem cd_Cl_exchangeLines : Cond.code y_Cl_exchangeLines m_Cl_exchangeLines.2.1 m_Cl_exchangeLines.2.2.1 m_Cl_exchangeLines.2.2.2 ∈ kWS := kmem (i := 648) rfl (by decide +kernel)
set_option maxRecDepth 100000 in
theorem cd_Cl_here : Cond.code y_Cl_here m_Cl_here.2.1 m_Cl_here.2.2.1 m_Cl_here.2.2.2 ∈ kWS := kmem (i := 567) rfl (by decide +kernel)
set_option maxRecDepth 100000 in
theorem cd_Cl_init : Cond.code y_Cl_init m_Cl_init.2.1 m_Cl_init.2.2.1 m_Cl_init.2.2.2 ∈ kWS := kmem (i := 275) rfl (by decide +kernel)
set_option maxRecDepth 100000 in
theorem cd_Cl_isDigit : Cond.code y_Cl_isDigit m_Cl_isDigit.2.1 m_Cl_isDigit.2.2.1 m_Cl_isDigit.2.2.2 ∈ kWS := kmem (i := 574) rfl (by decide +kernel)
set_option maxRecDepth 100000 in
theorem cd_Cl_nextLineWith : Cond.code y_Cl_nextLineWith m_Cl_nextLineWith.2.1 m_Cl_nextLineWith.2.2.1 m_Cl_nextLineWith.2.2.2 ∈ kWS := kmem (i := 586) rfl (by decide +kernel)
set_option maxRecDepth 100000 in
theorem cd_Cl_noteLines : Cond.code y_Cl_noteLines m_Cl_noteLines.2.1 m_Cl_noteLines.2.2.1 m_Cl_noteLines.2.2.2 ∈ kWS := kmem (i := 618) rfl (by decide +kernel)
set_option maxRecDepth 100000 in
theorem cd_Cl_readAddress : Cond.code y_Cl_readAddress m_Cl_readAddress.2.1 m_Cl_readAddress.2.2.1 m_Cl_readAddress.2.2.2 ∈ kWS := kmem (i := 578) rfl (by decide +kernel)
set_option maxRecDepth 100000 in
theorem cd_Cl_readChange : Cond.code y_Cl_readChange m_Cl_readChange.2.1 m_Cl_readChange.2.2.1 m_Cl_readChange.2.2.2 ∈ kWS := kmem (i := 606) rfl (by decide +kernel)
set_option maxRecDepth 100000 in
theorem cd_Cl_readExchange : Cond.code y_Cl_readExchange m_Cl_readExchange.2.1 m_Cl_readExchange.2.2.1 m_Cl_readExchange.2.2.2 ∈ kWS := kmem (i := 610) rfl (by decide +kernel)
set_option maxRecDepth 100000 in
theorem cd_Cl_readPattern : Cond.code y_Cl_readPattern m_Cl_readPattern.2.1 m_Cl_readPattern.2.2.1 m_Cl_readPattern.2.2.2 ∈ kWS := kmem (i := 582) rfl (by decide +kernel)
set_option maxRecDepth 100000 in
theorem cd_Cl_readPreserve : Cond.code y_Cl_readPreserve m_Cl_readPreserve.2.1 m_Cl_readPreserve.2.2.1 m_Cl_readPreserve.2.2.2 ∈ kWS := kmem (i := 602) rfl (by decide +kernel)
set_option maxRecDepth 100000 in
theorem cd_Cl_readRange : Cond.code y_Cl_readRange m_Cl_readRange.2.1 m_Cl_readRange.2.2.1 m_Cl_readRange.2.2.2 ∈ kWS := kmem (i := 563) rfl (by decide +kernel)
set_option maxRecDepth 100000 in
theorem cd_Cl_search : Cond.code y_Cl_search m_Cl_search.2.1 m_Cl_search.2.2.1 m_Cl_search.2.2.2 ∈ kWS := kmem (i := 509) rfl (by decide +kernel)
set_option maxRecDepth 100000 in
theorem cd_Cl_takeAllIfNoRange : Cond.code y_Cl_takeAllIfNoRange m_Cl_takeAllIfNoRange.2.1 m_Cl_takeAllIfNoRange.2.2.1 m_Cl_takeAllIfNoRange.2.2.2 ∈ kWS := kmem (i := 571) rfl (by decide +kernel)
set_option maxRecDepth 100000 in
theorem cd_De_canPut : Cond.code y_De_canPut m_De_canPut.2.1 m_De_canPut.2.2.1 m_De_canPut.2.2.2 ∈ kWS := kmem (i := 764) rfl (by decide +kernel)
set_option maxRecDepth 100000 in
theorem cd_De_dropLines : Cond.code y_De_dropLines m_De_dropLines.2.1 m_De_dropLines.2.2.1 m_De_dropLines.2.2.2 ∈ kWS := kmem (i := 635) rfl (by decide +kernel)
set_option maxRecDepth 100000 in
theorem cd_De_emptyLines : Cond.code y_De_emptyLines m_De_emptyLines.2.1 m_De_emptyLines.2.2.1 m_De_emptyLines.2.2.2 ∈ kWS := kmem (i := 733) rfl (by decide +kernel)
set_option maxRecDepth 100000 in
theorem cd_De_exchange : Cond.code y_De_exchange m_De_exchange.2.1 m_De_exchange.2.2.1 m_De_exchange.2.2.2 ∈ kWS := kmem (i := 787) rfl (by decide +kernel)
set_option maxRecDepth 100000 in
theorem cd_De_holdLetters : Cond.code y_De_holdLetters m_De_holdLetters.2.1 m_De_holdLetters.2.2.1 m_De_holdLetters.2.2.2 ∈ kWS := kmem (i := 747) rfl (by decide +kernel)
set_option maxRecDepth 100000 in
theorem cd_De_holdLines : Cond.code y_De_holdLines m_De_holdLines.2.1 m_De_holdLines.2.2.1 m_De_holdLines.2.2.2 ∈ kWS := kmem (i := 630) rfl (by decide +kernel)
set_option maxRecDepth 100000 in
theorem cd_De_init : Cond.code y_De_init m_De_init.2.1 m_De_init.2.2.1 m_De_init.2.2.2 ∈ kWS := kmem (i := 130) rfl (by decide +kernel)
set_option maxRecDepth 100000 in
theorem cd_De_putLetters : Cond.code y_De_putLetters m_De_putLetters.2.1 m_De_putLetters.2.2.1 m_De_putLetters.2.2.2 ∈ kWS := kmem (i := 774) rfl (by decide +kernel)
set_option maxRecDepth 100000 in
theorem cd_De_putLines : Cond.code y_De_putLines m_De_putLines.2.1 m_De_putLines.2.2.1 m_De_putLines.2.2.2 ∈ kWS := kmem (i := 768) rfl (by decide +kernel)
set_option maxRecDepth 100000 in
theorem cd_De_reset : Cond.code y_De_reset m_De_reset.2.1 m_De_reset.2.2.1 m_De_reset.2.2.2 ∈ kWS := kmem (i := 843) rfl (by decide +kernel)
set_option maxRecDepth 100000 in
theorem cd_Di_addJob : Cond.code y_Di_addJob m_Di_addJob.2.1 m_Di_addJob.2.2.1 m_Di_addJob.2.2.2 ∈ kWS := kmem (i := 594) rfl (by decide +kernel)
set_option maxRecDepth 100000 in
theorem cd_Di_init : Cond.code y_Di_init m_Di_init.2.1 m_Di_init.2.2.1 m_Di_init.2.2.2 ∈ kWS := kmem (i := 210) rfl (by decide +kernel)
set_option maxRecDepth 100000 in
theorem cd_Di_recover : Cond.code y_Di_recover m_Di_recover.2.1 m_Di_recover.2.2.1 m_Di_recover.2.2.2 ∈ kWS := kmem (i := 851) rfl (by decide +kernel)
set_option maxRecDepth 100000 in
theorem cd_Di_writeBlock : Cond.code y_Di_writeBlock m_Di_writeBlock.2.1 m_Di_writeBlock.2.2.1 m_Di_writeBlock.2.2.2 ∈ kWS := kmem (i := 834) rfl (by decide +kernel)
set_option maxRecDepth 100000 in
theorem cd_Kb_ask : Cond.code y_Kb_ask m_Kb_ask.2.1 m_Kb_ask.2.2.1 m_Kb_ask.2.2.2 ∈ kWS := kmem (i := 501) rfl (by decide +kernel)
set_option maxRecDepth 100000 in
theorem cd_Kb_beginChange : Cond.code y_Kb_beginChange m_Kb_beginChange.2.1 m_Kb_beginChange.2.2.1 m_Kb_beginChange.2.2.2 ∈ kWS := kmem (i := 722) rfl (by decide +kernel)
set_option maxRecDepth 100000 in
theorem cd_Kb_beginInsert : Cond.code y_Kb_beginInsert m_Kb_beginInsert.2.1 m_Kb_beginInsert.2.2.1 m_Kb_beginInsert.2.2.2 ∈ kWS := kmem (i := 739) rfl (by decide +kernel)
set_option maxRecDepth 100000 in
theorem cd_Kb_command : Cond.code y_Kb_command m_Kb_command.2.1 m_Kb_command.2.2.1 m_Kb_command.2.2.2 ∈ kWS := kmem (i := 680) rfl (by decide +kernel)
set_option maxRecDepth 100000 in
theorem cd_Kb_dropCommand : Cond.code y_Kb_dropCommand m_Kb_dropCommand.2.1 m_Kb_dropCommand.2.2.1 m_Kb_dropCommand.2.2.2 ∈ kWS := kmem (i := 792) rfl (by decide +kernel)
set_option maxRecDepth 100000 in
theorem cd_Kb_edit : Cond.code y_Kb_edit m_Kb_edit.2.1 m_Kb_edit.2.2.1 m_Kb_edit.2.2.2 ∈ kWS := kmem (i := 446) rfl (by decide +kernel)
set_option maxRecDepth 100000 in
theorem cd_Kb_init : Cond.code y_Kb_init m_Kb_init.2.1 m_Kb_init.2.2.1 m_Kb_init.2.2.2 ∈ kWS := kmem (i := 356) rfl (by decide +kernel)
set_option maxRecDepth 100000 in
theorem cd_Kb_insert : Cond.code y_Kb_insert m_Kb_insert.2.1 m_Kb_insert.2.2.1 m_Kb_insert.2.2.2 ∈ kWS := kmem (i := 442) rfl (by decide +kernel)
set_option maxRecDepth 100000 in
theorem cd_Kb_insertFrom : Cond.code y_Kb_insertFrom m_Kb_insertFrom.2.1 m_Kb_insertFrom.2.2.1 m_Kb_insertFrom.2.2.2 ∈ kWS := kmem (i := 779) rfl (by decide +kernel)
set_option maxRecDepth 100000 in
theorem cd_Kb_isCountKey : Cond.code y_Kb_isCountKey m_Kb_isCountKey.2.1 m_Kb_isCountKey.2.2.1 m_Kb_isCountKey.2.2.2 ∈ kWS := kmem (i := 684) rfl (by decide +kernel)
set_option maxRecDepth 100000 in
theorem cd_Kb_isOperator : Cond.code y_Kb_isOperator m_Kb_isOperator.2.1 m_Kb_isOperator.2.2.1 m_Kb_isOperator.2.2.2 ∈ kWS := kmem (i := 687) rfl (by decide +kernel)
set_option maxRecDepth 100000 in
theorem cd_Kb_isRepeat : Cond.code y_Kb_isRepeat m_Kb_isRepeat.2.1 m_Kb_isRepeat.2.2.1 m_Kb_isRepeat.2.2.2 ∈ kWS := kmem (i := 668) rfl (by decide +kernel)
set_option maxRecDepth 100000 in
theorem cd_Kb_openLine : Cond.code y_Kb_openLine m_Kb_openLine.2.1 m_Kb_openLine.2.2.1 m_Kb_openLine.2.2.2 ∈ kWS := kmem (i := 783) rfl (by decide +kernel)
set_option maxRecDepth 100000 in
theorem cd_Kb_operate : Cond.code y_Kb_operate m_Kb_operate.2.1 m_Kb_operate.2.2.1 m_Kb_operate.2.2.2 ∈ kWS := kmem (i := 713) rfl (by decide +kernel)
set_option maxRecDepth 100000 in
theorem cd_Kb_operateOnLetters : Cond.code y_Kb_operateOnLetters m_Kb_operateOnLetters.2.1 m_Kb_operateOnLetters.2.2.1 m_Kb_operateOnLetters.2.2.2 ∈ kWS := kmem (i := 743) rfl (by decide +kernel)
set_option maxRecDepth 100000 in
theorem cd_Kb_operateOnLines : Cond.code y_Kb_operateOnLines m_Kb_operateOnLines.2.1 m_Kb_operateOnLines.2.2.1 m_Kb_operateOnLines.2.2.2 ∈ kWS := kmem (i := 717) rfl (by decide +kernel)
set_option maxRecDepth 100000 in
theorem cd_Kb_partLine : Cond.code y_Kb_partLine m_Kb_partLine.2.1 m_Kb_partLine.2.2.1 m_Kb_partLine.2.2.2 ∈ kWS := kmem (i := 451) rfl (by decide +kernel)
set_option maxRecDepth 100000 in
theorem cd_Kb_plain : Cond.code y_Kb_plain m_Kb_plain.2.1 m_Kb_plain.2.2.1 m_Kb_plain.2.2.2 ∈ kWS := kmem (i := 756) rfl (by decide +kernel)
set_option maxRecDepth 100000 in
theorem cd_Kb_put : Cond.code y_Kb_put m_Kb_put.2.1 m_Kb_put.2.2.1 m_Kb_put.2.2.2 ∈ kWS := kmem (i := 760) rfl (by decide +kernel)
set_option maxRecDepth 100000 in
theorem cd_Kb_repeat : Cond.code y_Kb_repeat m_Kb_repeat.2.1 m_Kb_repeat.2.2.1 m_Kb_repeat.2.2.2 ∈ kWS := kmem (i := 672) rfl (by decide +kernel)
set_option maxRecDepth 100000 in
theorem cd_Kb_reset : Cond.code y_Kb_reset m_Kb_reset.2.1 m_Kb_reset.2.2.1 m_Kb_reset.2.2.2 ∈ kWS := kmem (i := 847) rfl (by decide +kernel)
set_option maxRecDepth 100000 in
theorem cd_Ke_add : Cond.code y_Ke_add m_Ke_add.2.1 m_Ke_add.2.2.1 m_Ke_add.2.2.2 ∈ kWS := kmem (i := 496) rfl (by decide +kernel)
set_option maxRecDepth 100000 in
theorem cd_Ke_copy : Cond.code y_Ke_copy m_Ke_copy.2.1 m_Ke_copy.2.2.1 m_Ke_copy.2.2.2 ∈ kWS := kmem (i := 727) rfl (by decide +kernel)
set_option maxRecDepth 100000 in
theorem cd_Ke_init : Cond.code y_Ke_init m_Ke_init.2.1 m_Ke_init.2.2.1 m_Ke_init.2.2.2 ∈ kWS := kmem (i := 362) rfl (by decide +kernel)
set_option maxRecDepth 100000 in
theorem cd_Ke_isFull : Cond.code y_Ke_isFull m_Ke_isFull.2.1 m_Ke_isFull.2.2.1 m_Ke_isFull.2.2.2 ∈ kWS := kmem (i := 505) rfl (by decide +kernel)
set_option maxRecDepth 100000 in
theorem cd_Ke_isTooLong : Cond.code y_Ke_isTooLong m_Ke_isTooLong.2.1 m_Ke_isTooLong.2.2.1 m_Ke_isTooLong.2.2.2 ∈ kWS := kmem (i := 676) rfl (by decide +kernel)
set_option maxRecDepth 100000 in
theorem cd_Ks_buffer : Cond.code y_Ks_buffer m_Ks_buffer.2.1 m_Ks_buffer.2.2.1 m_Ks_buffer.2.2.2 ∈ kWS := kmem (i := 877) rfl (by decide +kernel)
set_option maxRecDepth 100000 in
theorem cd_Ks_cell : Cond.code y_Ks_cell m_Ks_cell.2.1 m_Ks_cell.2.2.1 m_Ks_cell.2.2.2 ∈ kWS := kmem (i := 893) rfl (by decide +kernel)
set_option maxRecDepth 100000 in
theorem cd_Ks_crash : Cond.code y_Ks_crash m_Ks_crash.2.1 m_Ks_crash.2.2.1 m_Ks_crash.2.2.2 ∈ kWS := kmem (i := 839) rfl (by decide +kernel)
set_option maxRecDepth 100000 in
theorem cd_Ks_cursor : Cond.code y_Ks_cursor m_Ks_cursor.2.1 m_Ks_cursor.2.2.1 m_Ks_cursor.2.2.2 ∈ kWS := kmem (i := 873) rfl (by decide +kernel)
set_option maxRecDepth 100000 in
theorem cd_Ks_file : Cond.code y_Ks_file m_Ks_file.2.1 m_Ks_file.2.2.1 m_Ks_file.2.2.2 ∈ kWS := kmem (i := 885) rfl (by decide +kernel)
set_option maxRecDepth 100000 in
theorem cd_Ks_held : Cond.code y_Ks_held m_Ks_held.2.1 m_Ks_held.2.2.1 m_Ks_held.2.2.2 ∈ kWS := kmem (i := 881) rfl (by decide +kernel)
set_option maxRecDepth 100000 in
theorem cd_Ks_init : Cond.code y_Ks_init m_Ks_init.2.1 m_Ks_init.2.2.1 m_Ks_init.2.2.2 ∈ kWS := kmem (i := 122) rfl (by decide +kernel)
set_option maxRecDepth 100000 in
theorem cd_Ks_isKey : Cond.code y_Ks_isKey m_Ks_isKey.2.1 m_Ks_isKey.2.2.1 m_Ks_isKey.2.2.2 ∈ kWS := kmem (i := 438) rfl (by decide +kernel)
set_option maxRecDepth 100000 in
theorem cd_Ks_isWidth : Cond.code y_Ks_isWidth m_Ks_isWidth.2.1 m_Ks_isWidth.2.2.1 m_Ks_isWidth.2.2.2 ∈ kWS := kmem (i := 243) rfl (by decide +kernel)
set_option maxRecDepth 100000 in
theorem cd_Ks_key : Cond.code y_Ks_key m_Ks_key.2.1 m_Ks_key.2.2.1 m_Ks_key.2.2.2 ∈ kWS := kmem (i := 435) rfl (by decide +kernel)
set_option maxRecDepth 100000 in
theorem cd_Ks_length : Cond.code y_Ks_length m_Ks_length.2.1 m_Ks_length.2.2.1 m_Ks_length.2.2.2 ∈ kWS := kmem (i := 863) rfl (by decide +kernel)
set_option maxRecDepth 100000 in
theorem cd_Ks_letter : Cond.code y_Ks_letter m_Ks_letter.2.1 m_Ks_letter.2.2.1 m_Ks_letter.2.2.2 ∈ kWS := kmem (i := 868) rfl (by decide +kernel)
set_option maxRecDepth 100000 in
theorem cd_Ks_lines : Cond.code y_Ks_lines m_Ks_lines.2.1 m_Ks_lines.2.2.1 m_Ks_lines.2.2.2 ∈ kWS := kmem (i := 859) rfl (by decide +kernel)
set_option maxRecDepth 100000 in
theorem cd_Ks_mode : Cond.code y_Ks_mode m_Ks_mode.2.1 m_Ks_mode.2.2.1 m_Ks_mode.2.2.2 ∈ kWS := kmem (i := 855) rfl (by decide +kernel)
set_option maxRecDepth 100000 in
theorem cd_Ks_resize : Cond.code y_Ks_resize m_Ks_resize.2.1 m_Ks_resize.2.2.1 m_Ks_resize.2.2.2 ∈ kWS := kmem (i := 822) rfl (by decide +kernel)
set_option maxRecDepth 100000 in
theorem cd_Ks_sent : Cond.code y_Ks_sent m_Ks_sent.2.1 m_Ks_sent.2.2.1 m_Ks_sent.2.2.2 ∈ kWS := kmem (i := 905) rfl (by decide +kernel)
set_option maxRecDepth 100000 in
theorem cd_Ks_stored : Cond.code y_Ks_stored m_Ks_stored.2.1 m_Ks_stored.2.2.1 m_Ks_stored.2.2.2 ∈ kWS := kmem (i := 889) rfl (by decide +kernel)
set_option maxRecDepth 100000 in
theorem cd_Ks_sync : Cond.code y_Ks_sync m_Ks_sync.2.1 m_Ks_sync.2.2.1 m_Ks_sync.2.2.2 ∈ kWS := kmem (i := 830) rfl (by decide +kernel)
set_option maxRecDepth 100000 in
theorem cd_Ks_top : Cond.code y_Ks_top m_Ks_top.2.1 m_Ks_top.2.2.1 m_Ks_top.2.2.2 ∈ kWS := kmem (i := 901) rfl (by decide +kernel)
set_option maxRecDepth 100000 in
theorem cd_Mo_isStop : Cond.code y_Mo_isStop m_Mo_isStop.2.1 m_Mo_isStop.2.2.1 m_Mo_isStop.2.2.2 ∈ kWS := kmem (i := 702) rfl (by decide +kernel)
set_option maxRecDepth 100000 in
theorem cd_Mo_kindOf : Cond.code y_Mo_kindOf m_Mo_kindOf.2.1 m_Mo_kindOf.2.2.1 m_Mo_kindOf.2.2.2 ∈ kWS := kmem (i := 706) rfl (by decide +kernel)
set_option maxRecDepth 100000 in
theorem cd_Mo_lead : Cond.code y_Mo_lead m_Mo_lead.2.1 m_Mo_lead.2.2.1 m_Mo_lead.2.2.2 ∈ kWS := kmem (i := 690) rfl (by decide +kernel)
set_option maxRecDepth 100000 in
theorem cd_Mo_place : Cond.code y_Mo_place m_Mo_place.2.1 m_Mo_place.2.2.1 m_Mo_place.2.2.2 ∈ kWS := kmem (i := 695) rfl (by decide +kernel)
set_option maxRecDepth 100000 in
theorem cd_Mo_stopBefore : Cond.code y_Mo_stopBefore m_Mo_stopBefore.2.1 m_Mo_stopBefore.2.2.1 m_Mo_stopBefore.2.2.2 ∈ kWS := kmem (i := 709) rfl (by decide +kernel)
set_option maxRecDepth 100000 in
theorem cd_Mo_stopBehind : Cond.code y_Mo_stopBehind m_Mo_stopBehind.2.1 m_Mo_stopBehind.2.2.1 m_Mo_stopBehind.2.2.2 ∈ kWS := kmem (i := 699) rfl (by decide +kernel)
set_option maxRecDepth 100000 in
theorem cd_Pa_endOfMatch : Cond.code y_Pa_endOfMatch m_Pa_endOfMatch.2.1 m_Pa_endOfMatch.2.2.1 m_Pa_endOfMatch.2.2.2 ∈ kWS := kmem (i := 535) rfl (by decide +kernel)
set_option maxRecDepth 100000 in
theorem cd_Pa_init : Cond.code y_Pa_init m_Pa_init.2.1 m_Pa_init.2.2.1 m_Pa_init.2.2.2 ∈ kWS := kmem (i := 281) rfl (by decide +kernel)
set_option maxRecDepth 100000 in
theorem cd_Pa_isEndSign : Cond.code y_Pa_isEndSign m_Pa_isEndSign.2.1 m_Pa_isEndSign.2.2.1 m_Pa_isEndSign.2.2.2 ∈ kWS := kmem (i := 522) rfl (by decide +kernel)
set_option maxRecDepth 100000 in
theorem cd_Pa_isIn : Cond.code y_Pa_isIn m_Pa_isIn.2.1 m_Pa_isIn.2.2.1 m_Pa_isIn.2.2.2 ∈ kWS := kmem (i := 590) rfl (by decide +kernel)
set_option maxRecDepth 100000 in
theorem cd_Pa_isOver : Cond.code y_Pa_isOver m_Pa_isOver.2.1 m_Pa_isOver.2.2.1 m_Pa_isOver.2.2.2 ∈ kWS := kmem (i := 544) rfl (by decide +kernel)
set_option maxRecDepth 100000 in
theorem cd_Pa_passStars : Cond.code y_Pa_passStars m_Pa_passStars.2.1 m_Pa_passStars.2.2.1 m_Pa_passStars.2.2.2 ∈ kWS := kmem (i := 540) rfl (by decide +kernel)
set_option maxRecDepth 100000 in
theorem cd_Pa_read : Cond.code y_Pa_read m_Pa_read.2.1 m_Pa_read.2.2.1 m_Pa_read.2.2.2 ∈ kWS := kmem (i := 518) rfl (by decide +kernel)
set_option maxRecDepth 100000 in
theorem cd_Pa_readSet : Cond.code y_Pa_readSet m_Pa_readSet.2.1 m_Pa_readSet.2.2.1 m_Pa_readSet.2.2.2 ∈ kWS := kmem (i := 526) rfl (by decide +kernel)
set_option maxRecDepth 100000 in
theorem cd_Pa_readSingle : Cond.code y_Pa_readSingle m_Pa_readSingle.2.1 m_Pa_readSingle.2.2.1 m_Pa_readSingle.2.2.2 ∈ kWS := kmem (i := 530) rfl (by decide +kernel)
set_option maxRecDepth 100000 in
theorem cd_Pa_step : Cond.code y_Pa_step m_Pa_step.2.1 m_Pa_step.2.2.1 m_Pa_step.2.2.2 ∈ kWS := kmem (i := 549) rfl (by decide +kernel)
set_option maxRecDepth 100000 in
theorem cd_Rm_add : Cond.code y_Rm_add m_Rm_add.2.1 m_Rm_add.2.2.1 m_Rm_add.2.2.2 ∈ kWS := kmem (i := 1197) rfl (by decide +kernel)
set_option maxRecDepth 100000 in
theorem cd_Rm_address : Cond.code y_Rm_address m_Rm_address.2.1 m_Rm_address.2.2.1 m_Rm_address.2.2.2 ∈ kWS := kmem (i := 1129) rfl (by decide +kernel)
set_option maxRecDepth 100000 in
theorem cd_Rm_addressed : Cond.code y_Rm_addressed m_Rm_addressed.2.1 m_Rm_addressed.2.2.1 m_Rm_addressed.2.2.2 ∈ kWS := kmem (i := 1121) rfl (by decide +kernel)
set_option maxRecDepth 100000 in
theorem cd_Rm_all : Cond.code y_Rm_all m_Rm_all.2.1 m_Rm_all.2.2.1 m_Rm_all.2.2.2 ∈ kWS := kmem (i := 1161) rfl (by decide +kernel)
set_option maxRecDepth 100000 in
theorem cd_Rm_append : Cond.code y_Rm_append m_Rm_append.2.1 m_Rm_append.2.2.1 m_Rm_append.2.2.2 ∈ kWS := kmem (i := 1193) rfl (by decide +kernel)
set_option maxRecDepth 100000 in
theorem cd_Rm_at : Cond.code y_Rm_at m_Rm_at.2.1 m_Rm_at.2.2.1 m_Rm_at.2.2.2 ∈ kWS := kmem (i := 1101) rfl (by decide +kernel)
set_option maxRecDepth 100000 in
theorem cd_Rm_atom : Cond.code y_Rm_atom m_Rm_atom.2.1 m_Rm_atom.2.2.1 m_Rm_atom.2.2.2 ∈ kWS := kmem (i := 1093) rfl (by decide +kernel)
set_option maxRecDepth 100000 in
theorem cd_Rm_beginInsert : Cond.code y_Rm_beginInsert m_Rm_beginInsert.2.1 m_Rm_beginInsert.2.2.1 m_Rm_beginInsert.2.2.2 ∈ kWS := kmem (i := 1249) rfl (by decide +kernel)
set_option maxRecDepth 100000 in
theorem cd_Rm_below : Cond.code y_Rm_below m_Rm_below.2.1 m_Rm_below.2.2.1 m_Rm_below.2.2.2 ∈ kWS := kmem (i := 1141) rfl (by decide +kernel)
set_option maxRecDepth 100000 in
theorem cd_Rm_blank : Cond.code y_Rm_blank m_Rm_blank.2.1 m_Rm_blank.2.2.1 m_Rm_blank.2.2.2 ∈ kWS := kmem (i := 918) rfl (by decide +kernel)
set_option maxRecDepth 100000 in
theorem cd_Rm_blanks : Cond.code y_Rm_blanks m_Rm_blanks.2.1 m_Rm_blanks.2.2.1 m_Rm_blanks.2.2.2 ∈ kWS := kmem (i := 1225) rfl (by decide +kernel)
set_option maxRecDepth 100000 in
theorem cd_Rm_buffer : Cond.code y_Rm_buffer m_Rm_buffer.2.1 m_Rm_buffer.2.2.1 m_Rm_buffer.2.2.2 ∈ kWS := kmem (i := 1337) rfl (by decide +kernel)
set_option maxRecDepth 100000 in
theorem cd_Rm_carryOut : Cond.code y_Rm_carryOut m_Rm_carryOut.2.1 m_Rm_carryOut.2.2.1 m_Rm_carryOut.2.2.2 ∈ kWS := kmem (i := 1149) rfl (by decide +kernel)
set_option maxRecDepth 100000 in
theorem cd_Rm_cell : Cond.code y_Rm_cell m_Rm_cell.2.1 m_Rm_cell.2.2.1 m_Rm_cell.2.2.2 ∈ kWS := kmem (i := 1353) rfl (by decide +kernel)
set_option maxRecDepth 100000 in
theorem cd_Rm_changed : Cond.code y_Rm_changed m_Rm_changed.2.1 m_Rm_changed.2.2.1 m_Rm_changed.2.2.2 ∈ kWS := kmem (i := 1205) rfl (by decide +kernel)
set_option maxRecDepth 100000 in
theorem cd_Rm_character : Cond.code y_Rm_character m_Rm_character.2.1 m_Rm_character.2.2.1 m_Rm_character.2.2.2 ∈ kWS := kmem (i := 1329) rfl (by decide +kernel)
set_option maxRecDepth 100000 in
theorem cd_Rm_characters : Cond.code y_Rm_characters m_Rm_characters.2.1 m_Rm_characters.2.2.1 m_Rm_characters.2.2.2 ∈ kWS := kmem (i := 1253) rfl (by decide +kernel)
set_option maxRecDepth 100000 in
theorem cd_Rm_clip : Cond.code y_Rm_clip m_Rm_clip.2.1 m_Rm_clip.2.2.1 m_Rm_clip.2.2.2 ∈ kWS := kmem (i := 1209) rfl (by decide +kernel)
set_option maxRecDepth 100000 in
theorem cd_Rm_closeLine : Cond.code y_Rm_closeLine m_Rm_closeLine.2.1 m_Rm_closeLine.2.2.1 m_Rm_closeLine.2.2.2 ∈ kWS := kmem (i := 1177) rfl (by decide +kernel)
set_option maxRecDepth 100000 in
theorem cd_Rm_command : Cond.code y_Rm_command m_Rm_command.2.1 m_Rm_command.2.2.1 m_Rm_command.2.2.2 ∈ kWS := kmem (i := 1237) rfl (by decide +kernel)
set_option maxRecDepth 100000 in
theorem cd_Rm_copyLine : Cond.code y_Rm_copyLine m_Rm_copyLine.2.1 m_Rm_copyLine.2.2.1 m_Rm_copyLine.2.2.2 ∈ kWS := kmem (i := 1077) rfl (by decide +kernel)
set_option maxRecDepth 100000 in
theorem cd_Rm_copyText : Cond.code y_Rm_copyText m_Rm_copyText.2.1 m_Rm_copyText.2.2.1 m_Rm_copyText.2.2.2 ∈ kWS := kmem (i := 1073) rfl (by decide +kernel)
set_option maxRecDepth 100000 in
theorem cd_Rm_crash : Cond.code y_Rm_crash m_Rm_crash.2.1 m_Rm_crash.2.2.1 m_Rm_crash.2.2.2 ∈ kWS := kmem (i := 1305) rfl (by decide +kernel)
set_option maxRecDepth 100000 in
theorem cd_Rm_cursor : Cond.code y_Rm_cursor m_Rm_cursor.2.1 m_Rm_cursor.2.2.1 m_Rm_cursor.2.2.2 ∈ kWS := kmem (i := 1333) rfl (by decide +kernel)
set_option maxRecDepth 100000 in
theorem cd_Rm_delimited : Cond.code y_Rm_delimited m_Rm_delimited.2.1 m_Rm_delimited.2.2.1 m_Rm_delimited.2.2.2 ∈ kWS := kmem (i := 1137) rfl (by decide +kernel)
set_option maxRecDepth 100000 in
theorem cd_Rm_digit : Cond.code y_Rm_digit m_Rm_digit.2.1 m_Rm_digit.2.2.1 m_Rm_digit.2.2.2 ∈ kWS := kmem (i := 1125) rfl (by decide +kernel)
set_option maxRecDepth 100000 in
theorem cd_Rm_draw : Cond.code y_Rm_draw m_Rm_draw.2.1 m_Rm_draw.2.2.1 m_Rm_draw.2.2.2 ∈ kWS := kmem (i := 1285) rfl (by decide +kernel)
set_option maxRecDepth 100000 in
theorem cd_Rm_drop : Cond.code y_Rm_drop m_Rm_drop.2.1 m_Rm_drop.2.2.1 m_Rm_drop.2.2.2 ∈ kWS := kmem (i := 926) rfl (by decide +kernel)
set_option maxRecDepth 100000 in
theorem cd_Rm_ended : Cond.code y_Rm_ended m_Rm_ended.2.1 m_Rm_ended.2.2.1 m_Rm_ended.2.2.2 ∈ kWS := kmem (i := 1153) rfl (by decide +kernel)
set_option maxRecDepth 100000 in
theorem cd_Rm_exchange : Cond.code y_Rm_exchange m_Rm_exchange.2.1 m_Rm_exchange.2.2.1 m_Rm_exchange.2.2.2 ∈ kWS := kmem (i := 1185) rfl (by decide +kernel)
set_option maxRecDepth 100000 in
theorem cd_Rm_file : Cond.code y_Rm_file m_Rm_file.2.1 m_Rm_file.2.2.1 m_Rm_file.2.2.2 ∈ kWS := kmem (i := 1345) rfl (by decide +kernel)
set_option maxRecDepth 100000 in
theorem cd_Rm_held : Cond.code y_Rm_held m_Rm_held.2.1 m_Rm_held.2.2.1 m_Rm_held.2.2.2 ∈ kWS := kmem (i := 1341) rfl (by decide +kernel)
set_option maxRecDepth 100000 in
theorem cd_Rm_hold : Cond.code y_Rm_hold m_Rm_hold.2.1 m_Rm_hold.2.2.1 m_Rm_hold.2.2.2 ∈ kWS := kmem (i := 1169) rfl (by decide +kernel)
set_option maxRecDepth 100000 in
theorem cd_Rm_inPrompt : Cond.code y_Rm_inPrompt m_Rm_inPrompt.2.1 m_Rm_inPrompt.2.2.1 m_Rm_inPrompt.2.2.2 ∈ kWS := kmem (i := 1069) rfl (by decide +kernel)
set_option maxRecDepth 100000 in
theorem cd_Rm_init : Cond.code y_Rm_init m_Rm_init.2.1 m_Rm_init.2.2.1 m_Rm_init.2.2.2 ∈ kWS := kmem (i := 913) rfl (by decide +kernel)
set_option maxRecDepth 100000 in
theorem cd_Rm_insert : Cond.code y_Rm_insert m_Rm_insert.2.1 m_Rm_insert.2.2.1 m_Rm_insert.2.2.2 ∈ kWS := kmem (i := 1213) rfl (by decide +kernel)
set_option maxRecDepth 100000 in
theorem cd_Rm_insertAt : Cond.code y_Rm_insertAt m_Rm_insertAt.2.1 m_Rm_insertAt.2.2.1 m_Rm_insertAt.2.2.2 ∈ kWS := kmem (i := 1229) rfl (by decide +kernel)
set_option maxRecDepth 100000 in
theorem cd_Rm_job : Cond.code y_Rm_job m_Rm_job.2.1 m_Rm_job.2.2.1 m_Rm_job.2.2.2 ∈ kWS := kmem (i := 1157) rfl (by decide +kernel)
set_option maxRecDepth 100000 in
theorem cd_Rm_keep : Cond.code y_Rm_keep m_Rm_keep.2.1 m_Rm_keep.2.2.1 m_Rm_keep.2.2.2 ∈ kWS := kmem (i := 1233) rfl (by decide +kernel)
set_option maxRecDepth 100000 in
theorem cd_Rm_key : Cond.code y_Rm_key m_Rm_key.2.1 m_Rm_key.2.2.1 m_Rm_key.2.2.2 ∈ kWS := kmem (i := 1057) rfl (by decide +kernel)
set_option maxRecDepth 100000 in
theorem cd_Rm_kindOf : Cond.code y_Rm_kindOf m_Rm_kindOf.2.1 m_Rm_kindOf.2.2.1 m_Rm_kindOf.2.2.2 ∈ kWS := kmem (i := 1269) rfl (by decide +kernel)
set_option maxRecDepth 100000 in
theorem cd_Rm_length : Cond.code y_Rm_length m_Rm_length.2.1 m_Rm_length.2.2.1 m_Rm_length.2.2.2 ∈ kWS := kmem (i := 1321) rfl (by decide +kernel)
set_option maxRecDepth 100000 in
theorem cd_Rm_letter : Cond.code y_Rm_letter m_Rm_letter.2.1 m_Rm_letter.2.2.1 m_Rm_letter.2.2.2 ∈ kWS := kmem (i := 1325) rfl (by decide +kernel)
set_option maxRecDepth 100000 in
theorem cd_Rm_line : Cond.code y_Rm_line m_Rm_line.2.1 m_Rm_line.2.2.1 m_Rm_line.2.2.2 ∈ kWS := kmem (i := 1113) rfl (by decide +kernel)
set_option maxRecDepth 100000 in
theorem cd_Rm_lines : Cond.code y_Rm_lines m_Rm_lines.2.1 m_Rm_lines.2.2.1 m_Rm_lines.2.2.2 ∈ kWS := kmem (i := 1317) rfl (by decide +kernel)
set_option maxRecDepth 100000 in
theorem cd_Rm_match : Cond.code y_Rm_match m_Rm_match.2.1 m_Rm_match.2.2.1 m_Rm_match.2.2.2 ∈ kWS := kmem (i := 1097) rfl (by decide +kernel)
set_option maxRecDepth 100000 in
theorem cd_Rm_mode : Cond.code y_Rm_mode m_Rm_mode.2.1 m_Rm_mode.2.2.1 m_Rm_mode.2.2.2 ∈ kWS := kmem (i := 1313) rfl (by decide +kernel)
set_option maxRecDepth 100000 in
theorem cd_Rm_motion : Cond.code y_Rm_motion m_Rm_motion.2.1 m_Rm_motion.2.2.1 m_Rm_motion.2.2.2 ∈ kWS := kmem (i := 1257) rfl (by decide +kernel)
set_option maxRecDepth 100000 in
theorem cd_Rm_needed : Cond.code y_Rm_needed m_Rm_needed.2.1 m_Rm_needed.2.2.1 m_Rm_needed.2.2.2 ∈ kWS := kmem (i := 1289) rfl (by decide +kernel)
set_option maxRecDepth 100000 in
theorem cd_Rm_number : Cond.code y_Rm_number m_Rm_number.2.1 m_Rm_number.2.2.1 m_Rm_number.2.2.2 ∈ kWS := kmem (i := 1133) rfl (by decide +kernel)
set_option maxRecDepth 100000 in
theorem cd_Rm_one : Cond.code y_Rm_one m_Rm_one.2.1 m_Rm_one.2.2.1 m_Rm_one.2.2.2 ∈ kWS := kmem (i := 1165) rfl (by decide +kernel)
set_option maxRecDepth 100000 in
theorem cd_Rm_openLine : Cond.code y_Rm_openLine m_Rm_openLine.2.1 m_Rm_openLine.2.2.1 m_Rm_openLine.2.2.2 ∈ kWS := kmem (i := 1181) rfl (by decide +kernel)
set_option maxRecDepth 100000 in
theorem cd_Rm_operate : Cond.code y_Rm_operate m_Rm_operate.2.1 m_Rm_operate.2.2.1 m_Rm_operate.2.2.2 ∈ kWS := kmem (i := 1241) rfl (by decide +kernel)
set_option maxRecDepth 100000 in
theorem cd_Rm_part : Cond.code y_Rm_part m_Rm_part.2.1 m_Rm_part.2.2.1 m_Rm_part.2.2.2 ∈ kWS := kmem (i := 1221) rfl (by decide +kernel)
set_option maxRecDepth 100000 in
theorem cd_Rm_pattern : Cond.code y_Rm_pattern m_Rm_pattern.2.1 m_Rm_pattern.2.2.1 m_Rm_pattern.2.2.2 ∈ kWS := kmem (i := 1085) rfl (by decide +kernel)
set_option maxRecDepth 100000 in
theorem cd_Rm_period : Cond.code y_Rm_period m_Rm_period.2.1 m_Rm_period.2.2.1 m_Rm_period.2.2.2 ∈ kWS := kmem (i := 1061) rfl (by decide +kernel)
set_option maxRecDepth 100000 in
theorem cd_Rm_place : Cond.code y_Rm_place m_Rm_place.2.1 m_Rm_place.2.2.1 m_Rm_place.2.2.2 ∈ kWS := kmem (i := 1109) rfl (by decide +kernel)
set_option maxRecDepth 100000 in
theorem cd_Rm_putCharacters : Cond.code y_Rm_putCharacters m_Rm_putCharacters.2.1 m_Rm_putCharacters.2.2.1 m_Rm_putCharacters.2.2.2 ∈ kWS := kmem (i := 1277) rfl (by decide +kernel)
set_option maxRecDepth 100000 in
theorem cd_Rm_putLines : Cond.code y_Rm_putLines m_Rm_putLines.2.1 m_Rm_putLines.2.2.1 m_Rm_putLines.2.2.2 ∈ kWS := kmem (i := 1281) rfl (by decide +kernel)
set_option maxRecDepth 100000 in
theorem cd_Rm_removeAt : Cond.code y_Rm_removeAt m_Rm_removeAt.2.1 m_Rm_removeAt.2.2.1 m_Rm_removeAt.2.2.2 ∈ kWS := kmem (i := 1217) rfl (by decide +kernel)
set_option maxRecDepth 100000 in
theorem cd_Rm_replace : Cond.code y_Rm_replace m_Rm_replace.2.1 m_Rm_replace.2.2.1 m_Rm_replace.2.2.2 ∈ kWS := kmem (i := 1201) rfl (by decide +kernel)
set_option maxRecDepth 100000 in
theorem cd_Rm_reset : Cond.code y_Rm_reset m_Rm_reset.2.1 m_Rm_reset.2.2.1 m_Rm_reset.2.2.2 ∈ kWS := kmem (i := 922) rfl (by decide +kernel)
set_option maxRecDepth 100000 in
theorem cd_Rm_resize : Cond.code y_Rm_resize m_Rm_resize.2.1 m_Rm_resize.2.2.1 m_Rm_resize.2.2.2 ∈ kWS := kmem (i := 1309) rfl (by decide +kernel)
set_option maxRecDepth 100000 in
theorem cd_Rm_rewrite : Cond.code y_Rm_rewrite m_Rm_rewrite.2.1 m_Rm_rewrite.2.2.1 m_Rm_rewrite.2.2.2 ∈ kWS := kmem (i := 1189) rfl (by decide +kernel)
set_option maxRecDepth 100000 in
theorem cd_Rm_rows : Cond.code y_Rm_rows m_Rm_rows.2.1 m_Rm_rows.2.2.1 m_Rm_rows.2.2.2 ∈ kWS := kmem (i := 1293) rfl (by decide +kernel)
set_option maxRecDepth 100000 in
theorem cd_Rm_search : Cond.code y_Rm_search m_Rm_search.2.1 m_Rm_search.2.2.1 m_Rm_search.2.2.2 ∈ kWS := kmem (i := 1081) rfl (by decide +kernel)
set_option maxRecDepth 100000 in
theorem cd_Rm_seen : Cond.code y_Rm_seen m_Rm_seen.2.1 m_Rm_seen.2.2.1 m_Rm_seen.2.2.2 ∈ kWS := kmem (i := 1089) rfl (by decide +kernel)
set_option maxRecDepth 100000 in
theorem cd_Rm_send : Cond.code y_Rm_send m_Rm_send.2.1 m_Rm_send.2.2.1 m_Rm_send.2.2.2 ∈ kWS := kmem (i := 1297) rfl (by decide +kernel)
set_option maxRecDepth 100000 in
theorem cd_Rm_sent : Cond.code y_Rm_sent m_Rm_sent.2.1 m_Rm_sent.2.2.1 m_Rm_sent.2.2.2 ∈ kWS := kmem (i := 1361) rfl (by decide +kernel)
set_option maxRecDepth 100000 in
theorem cd_Rm_simple : Cond.code y_Rm_simple m_Rm_simple.2.1 m_Rm_simple.2.2.1 m_Rm_simple.2.2.2 ∈ kWS := kmem (i := 1273) rfl (by decide +kernel)
set_option maxRecDepth 100000 in
theorem cd_Rm_somewhere : Cond.code y_Rm_somewhere m_Rm_somewhere.2.1 m_Rm_somewhere.2.2.1 m_Rm_somewhere.2.2.2 ∈ kWS := kmem (i := 1145) rfl (by decide +kernel)
set_option maxRecDepth 100000 in
theorem cd_Rm_stop : Cond.code y_Rm_stop m_Rm_stop.2.1 m_Rm_stop.2.2.1 m_Rm_stop.2.2.2 ∈ kWS := kmem (i := 1265) rfl (by decide +kernel)
set_option maxRecDepth 100000 in
theorem cd_Rm_stored : Cond.code y_Rm_stored m_Rm_stored.2.1 m_Rm_stored.2.2.1 m_Rm_stored.2.2.2 ∈ kWS := kmem (i := 1349) rfl (by decide +kernel)
set_option maxRecDepth 100000 in
theorem cd_Rm_sync : Cond.code y_Rm_sync m_Rm_sync.2.1 m_Rm_sync.2.2.1 m_Rm_sync.2.2.2 ∈ kWS := kmem (i := 1301) rfl (by decide +kernel)
set_option maxRecDepth 100000 in
theorem cd_Rm_take : Cond.code y_Rm_take m_Rm_take.2.1 m_Rm_take.2.2.1 m_Rm_take.2.2.2 ∈ kWS := kmem (i := 1117) rfl (by decide +kernel)
set_option maxRecDepth 100000 in
theorem cd_Rm_takeLines : Cond.code y_Rm_takeLines m_Rm_takeLines.2.1 m_Rm_takeLines.2.2.1 m_Rm_takeLines.2.2.2 ∈ kWS := kmem (i := 1173) rfl (by decide +kernel)
set_option maxRecDepth 100000 in
theorem cd_Rm_takes : Cond.code y_Rm_takes m_Rm_takes.2.1 m_Rm_takes.2.2.1 m_Rm_takes.2.2.2 ∈ kWS := kmem (i := 1105) rfl (by decide +kernel)
set_option maxRecDepth 100000 in
theorem cd_Rm_toStop : Cond.code y_Rm_toStop m_Rm_toStop.2.1 m_Rm_toStop.2.2.1 m_Rm_toStop.2.2.2 ∈ kWS := kmem (i := 1261) rfl (by decide +kernel)
set_option maxRecDepth 100000 in
theorem cd_Rm_top : Cond.code y_Rm_top m_Rm_top.2.1 m_Rm_top.2.2.1 m_Rm_top.2.2.2 ∈ kWS := kmem (i := 1357) rfl (by decide +kernel)
set_option maxRecDepth 100000 in
theorem cd_Rm_wholeLines : Cond.code y_Rm_wholeLines m_Rm_wholeLines.2.1 m_Rm_wholeLines.2.2.1 m_Rm_wholeLines.2.2.2 ∈ kWS := kmem (i := 1245) rfl (by decide +kernel)
set_option maxRecDepth 100000 in
theorem cd_Rm_work : Cond.code y_Rm_work m_Rm_work.2.1 m_Rm_work.2.2.1 m_Rm_work.2.2.2 ∈ kWS := kmem (i := 1065) rfl (by decide +kernel)
set_option maxRecDepth 100000 in
theorem cd_Te_closeLetters : Cond.code y_Te_closeLetters m_Te_closeLetters.2.1 m_Te_closeLetters.2.2.1 m_Te_closeLetters.2.2.2 ∈ kWS := kmem (i := 492) rfl (by decide +kernel)
set_option maxRecDepth 100000 in
theorem cd_Te_closeLines : Cond.code y_Te_closeLines m_Te_closeLines.2.1 m_Te_closeLines.2.2.1 m_Te_closeLines.2.2.2 ∈ kWS := kmem (i := 639) rfl (by decide +kernel)
set_option maxRecDepth 100000 in
theorem cd_Te_codeAt : Cond.code y_Te_codeAt m_Te_codeAt.2.1 m_Te_codeAt.2.2.1 m_Te_codeAt.2.2.2 ∈ kWS := kmem (i := 484) rfl (by decide +kernel)
set_option maxRecDepth 100000 in
theorem cd_Te_copy : Cond.code y_Te_copy m_Te_copy.2.1 m_Te_copy.2.2.1 m_Te_copy.2.2.2 ∈ kWS := kmem (i := 622) rfl (by decide +kernel)
set_option maxRecDepth 100000 in
theorem cd_Te_copyLetters : Cond.code y_Te_copyLetters m_Te_copyLetters.2.1 m_Te_copyLetters.2.2.1 m_Te_copyLetters.2.2.2 ∈ kWS := kmem (i := 751) rfl (by decide +kernel)
set_option maxRecDepth 100000 in
theorem cd_Te_copyLines : Cond.code y_Te_copyLines m_Te_copyLines.2.1 m_Te_copyLines.2.2.1 m_Te_copyLines.2.2.2 ∈ kWS := kmem (i := 598) rfl (by decide +kernel)
set_option maxRecDepth 100000 in
theorem cd_Te_indentOf : Cond.code y_Te_indentOf m_Te_indentOf.2.1 m_Te_indentOf.2.2.1 m_Te_indentOf.2.2.2 ∈ kWS := kmem (i := 455) rfl (by decide +kernel)
set_option maxRecDepth 100000 in
theorem cd_Te_init : Cond.code y_Te_init m_Te_init.2.1 m_Te_init.2.2.1 m_Te_init.2.2.2 ∈ kWS := kmem (i := 136) rfl (by decide +kernel)
set_option maxRecDepth 100000 in
theorem cd_Te_openLetters : Cond.code y_Te_openLetters m_Te_openLetters.2.1 m_Te_openLetters.2.2.1 m_Te_openLetters.2.2.2 ∈ kWS := kmem (i := 480) rfl (by decide +kernel)
set_option maxRecDepth 100000 in
theorem cd_Te_openLines : Cond.code y_Te_openLines m_Te_openLines.2.1 m_Te_openLines.2.2.1 m_Te_openLines.2.2.2 ∈ kWS := kmem (i := 467) rfl (by decide +kernel)
set_option maxRecDepth 100000 in
theorem cd_Te_reset : Cond.code y_Te_reset m_Te_reset.2.1 m_Te_reset.2.2.1 m_Te_reset.2.2.2 ∈ kWS := kmem (i := 643) rfl (by decide +kernel)
set_option maxRecDepth 100000 in
theorem cd_Te_sizeOf : Cond.code y_Te_sizeOf m_Te_sizeOf.2.1 m_Te_sizeOf.2.2.1 m_Te_sizeOf.2.2.2 ∈ kWS := kmem (i := 459) rfl (by decide +kernel)
set_option maxRecDepth 100000 in
theorem cd_Te_stand : Cond.code y_Te_stand m_Te_stand.2.1 m_Te_stand.2.2.1 m_Te_stand.2.2.2 ∈ kWS := kmem (i := 553) rfl (by decide +kernel)
set_option maxRecDepth 100000 in
theorem cd_Te_write : Cond.code y_Te_write m_Te_write.2.1 m_Te_write.2.2.1 m_Te_write.2.2.2 ∈ kWS := kmem (i := 488) rfl (by decide +kernel)
set_option maxRecDepth 100000 in
theorem cd_Wi_codeAt : Cond.code y_Wi_codeAt m_Wi_codeAt.2.1 m_Wi_codeAt.2.2.1 m_Wi_codeAt.2.2.2 ∈ kWS := kmem (i := 897) rfl (by decide +kernel)
set_option maxRecDepth 100000 in
theorem cd_Wi_follow : Cond.code y_Wi_follow m_Wi_follow.2.1 m_Wi_follow.2.2.1 m_Wi_follow.2.2.2 ∈ kWS := kmem (i := 802) rfl (by decide +kernel)
set_option maxRecDepth 100000 in
theorem cd_Wi_init : Cond.code y_Wi_init m_Wi_init.2.1 m_Wi_init.2.2.1 m_Wi_init.2.2.2 ∈ kWS := kmem (i := 246) rfl (by decide +kernel)
set_option maxRecDepth 100000 in
theorem cd_Wi_paint : Cond.code y_Wi_paint m_Wi_paint.2.1 m_Wi_paint.2.2.1 m_Wi_paint.2.2.2 ∈ kWS := kmem (i := 813) rfl (by decide +kernel)
set_option maxRecDepth 100000 in
theorem cd_Wi_rowsOf : Cond.code y_Wi_rowsOf m_Wi_rowsOf.2.1 m_Wi_rowsOf.2.2.1 m_Wi_rowsOf.2.2.2 ∈ kWS := kmem (i := 807) rfl (by decide +kernel)
set_option maxRecDepth 100000 in
theorem cd_Wi_send : Cond.code y_Wi_send m_Wi_send.2.1 m_Wi_send.2.2.1 m_Wi_send.2.2.2 ∈ kWS := kmem (i := 818) rfl (by decide +kernel)
set_option maxRecDepth 100000 in
theorem cd_Wi_show : Cond.code y_Wi_show m_Wi_show.2.1 m_Wi_show.2.2.1 m_Wi_show.2.2.2 ∈ kWS := kmem (i := 798) rfl (by decide +kernel)
set_option maxRecDepth 100000 in
theorem cd_Wi_wipe : Cond.code y_Wi_wipe m_Wi_wipe.2.1 m_Wi_wipe.2.2.1 m_Wi_wipe.2.2.2 ∈ kWS := kmem (i := 826) rfl (by decide +kernel)
theorem T_Te_9 : kFL "KeyScreen$Text" 9 2 0 5 (.array .int) := ⟨_, T_Te, t_Te, rfl, by decide, in_Te, (kmem (i := 138) (by decide +kernel) (by decide +kernel)), ok_Te, nm_Te, rfl⟩
theorem U_Te_9 : kFe "KeyScreen$Text" 9 2 0 := kFe.mk T_Te_9 (fun _ => rfl) (fun h => absurd h (by decide)) (fun h => absurd h (by decide)) (fun h => absurd h (by decide))
theorem T_Te_15 : kFL "KeyScreen$Text" 15 2 1 5 (.array .int) := ⟨_, T_Te, t_Te, rfl, by decide, in_Te, (kmem (i := 142) (by decide +kernel) (by decide +kernel)), ok_Te, nm_Te, rfl⟩
theorem U_Te_15 : kFe "KeyScreen$Text" 15 2 1 := kFe.mk T_Te_15 (fun _ => rfl) (fun h => absurd h (by decide)) (fun h => absurd h (by decide)) (fun h => absurd h (by decide))
theorem T_Te_18 : kFL "KeyScreen$Text" 18 2 2 5 (.int) := ⟨_, T_Te, t_Te, rfl, by decide, in_Te, (kmem (i := 145) (by decide +kernel) (by decide +kernel)), ok_Te, nm_Te, rfl⟩
theorem U_Te_18 : kFe "KeyScreen$Text" 18 2 2 := kFe.mk T_Te_18 (fun _ => rfl) (fun _ => ⟨rfl, ⟨_, _, _, rfl, rfl⟩⟩) (fun h => absurd h (by decide)) (fun h => absurd h (by decide))
theorem T_Te_22 : kFL "KeyScreen$Text" 22 2 3 5 (.int) := ⟨_, T_Te, t_Te, rfl, by decide, in_Te, (kmem (i := 153) (by decide +kernel) (by decide +kernel)), ok_Te, nm_Te, rfl⟩
theorem U_Te_22 : kFe "KeyScreen$Text" 22 2 3 := kFe.mk T_Te_22 (fun _ => rfl) (fun _ => ⟨rfl, ⟨_, _, _, rfl, rfl⟩⟩) (fun h => absurd h (by decide)) (fun h => absurd h (by decide))
theorem T_Te_25 : kFL "KeyScreen$Text" 25 2 4 5 (.int) := ⟨_, T_Te, t_Te, rfl, by decide, in_Te, (kmem (i := 160) (by decide +kernel) (by decide +kernel)), ok_Te, nm_Te, rfl⟩
theorem U_Te_25 : kFe "KeyScreen$Text" 25 2 4 := kFe.mk T_Te_25 (fun _ => rfl) (fun _ => ⟨rfl, ⟨_, _, _, rfl, rfl⟩⟩) (fun h => absurd h (by decide)) (fun h => absurd h (by decide))
def F_Te : Nat → Option (Nat × Nat) := fun idx => ([(9, 2, 0), (15, 2, 1), (18, 2, 2), (22, 2, 3), (25, 2, 4)] : List (Nat × Nat × Nat)).lookup idx
theorem hF_Te : kFok "KeyScreen$Text" F_Te := kFok_of (List.forall_mem_cons.mpr ⟨U_Te_9, (List.forall_mem_cons.mpr ⟨U_Te_15, (List.forall_mem_cons.mpr ⟨U_Te_18, (List.forall_mem_cons.mpr ⟨U_Te_22, (List.forall_mem_cons.mpr ⟨U_Te_25, (fun _ h => absurd h List.not_mem_nil)⟩)⟩)⟩)⟩)⟩)
theorem w_Te_28 : Cond.methodLink "KeyScreen$Text" 28 arraycopyName ∈ kWS ∧ Cond.native arraycopyName ∈ kWS ∧ Cond.static arraycopyName ∈ kWS ∧ Cond.initialized "java/lang/System" ∈ kWS := ⟨(kmem (i := 468) (by decide +kernel) (by decide +kernel)), (kmem (i := 470) (by decide +kernel) (by decide +kernel)), (kmem (i := 469) (by decide +kernel) (by decide +kernel)), (kmem (i := 116) (by decide +kernel) (by decide +kernel))⟩
theorem c_Te_34 : kCS "KeyScreen$Text" 34 y_Ar_fill4 m_Ar_fill4 4 := ⟨⟨cd_Ar_fill4, (kmem (i := 471) (by decide +kernel) (by decide +kernel)), (kmem (i := 472) (by decide +kernel) (by decide +kernel)), (kmem (i := 109) (by decide +kernel) (by decide +kernel))⟩, by decide +kernel⟩
theorem w_Te_40 : Cond.methodLink "KeyScreen$Text" 40 Lib.Math.min.name ∈ kWS ∧ Cond.static Lib.Math.min.name ∈ kWS ∧ Cond.initialized "java/lang/Math" ∈ kWS ∧ Cond.code Lib.Math.min.name Lib.Math.min.code 2 (some .int) ∈ kWS := ⟨(kmem (i := 554) (by decide +kernel) (by decide +kernel)), (kmem (i := 461) (by decide +kernel) (by decide +kernel)), (kmem (i := 114) (by decide +kernel) (by decide +kernel)), (kmem (i := 462) (by decide +kernel) (by decide +kernel))⟩
theorem w_Te_46 : Cond.methodLink "KeyScreen$Text" 46 Lib.Math.max.name ∈ kWS ∧ Cond.static Lib.Math.max.name ∈ kWS ∧ Cond.initialized "java/lang/Math" ∈ kWS ∧ Cond.code Lib.Math.max.name Lib.Math.max.code 2 (some .int) ∈ kWS := ⟨(kmem (i := 555) (by decide +kernel) (by decide +kernel)), (kmem (i := 365) (by decide +kernel) (by decide +kernel)), (kmem (i := 114) (by decide +kernel) (by decide +kernel)), (kmem (i := 366) (by decide +kernel) (by decide +kernel))⟩
theorem c_Te_49 : kCV "KeyScreen$Text" 49 y_Te_sizeOf m_Te_sizeOf 2 1 := ⟨⟨cd_Te_sizeOf, (kmem (i := 456) (by decide +kernel) (by decide +kernel)), (kmem (i := 457) (by decide +kernel) (by decide +kernel)), (kmem (i := 458) (by decide +kernel) (by decide +kernel)), (kmem (i := 106) (by decide +kernel) (by decide +kernel))⟩, by decide +kernel, ⟨_, _, rfl, fun _ => rfl⟩⟩
theorem T_Ke_13 : kFL "KeyScreen$Keys" 13 6 0 2 (.array .int) := ⟨_, T_Ke, t_Ke, rfl, by decide, in_Ke, (kmem (i := 367) (by decide +kernel) (by decide +kernel)), ok_Ke, nm_Ke, rfl⟩
theorem U_Ke_13 : kFe "KeyScreen$Keys" 13 6 0 := kFe.mk T_Ke_13 (fun _ => rfl) (fun h => absurd h (by decide)) (fun h => absurd h (by decide)) (fun h => absurd h (by decide))
theorem T_Ke_19 : kFL "KeyScreen$Keys" 19 6 1 2 (.int) := ⟨_, T_Ke, t_Ke, rfl, by decide, in_Ke, (kmem (i := 370) (by decide +kernel) (by decide +kernel)), ok_Ke, nm_Ke, rfl⟩
theorem U_Ke_19 : kFe "KeyScreen$Keys" 19 6 1 := kFe.mk T_Ke_19 (fun _ => rfl) (fun _ => ⟨rfl, ⟨_, _, _, rfl, rfl⟩⟩) (fun h => absurd h (by decide)) (fun h => absurd h (by decide))
def F_Ke : Nat → Option (Nat × Nat) := fun idx => ([(13, 6, 0), (19, 6, 1)] : List (Nat × Nat × Nat)).lookup idx
theorem hF_Ke : kFok "KeyScreen$Keys" F_Ke := kFok_of (List.forall_mem_cons.mpr ⟨U_Ke_13, (List.forall_mem_cons.mpr ⟨U_Ke_19, (fun _ h => absurd h List.not_mem_nil)⟩)⟩)
theorem w_Ke_23 : Cond.methodLink "KeyScreen$Keys" 23 Lib.Math.min.name ∈ kWS ∧ Cond.static Lib.Math.min.name ∈ kWS ∧ Cond.initialized "java/lang/Math" ∈ kWS ∧ Cond.code Lib.Math.min.name Lib.Math.min.code 2 (some .int) ∈ kWS := ⟨(kmem (i := 497) (by decide +kernel) (by decide +kernel)), (kmem (i := 461) (by decide +kernel) (by decide +kernel)), (kmem (i := 114) (by decide +kernel) (by decide +kernel)), (kmem (i := 462) (by decide +kernel) (by decide +kernel))⟩
theorem w_Ke_26 : Cond.methodLink "KeyScreen$Keys" 26 arraycopyName ∈ kWS ∧ Cond.native arraycopyName ∈ kWS ∧ Cond.static arraycopyName ∈ kWS ∧ Cond.initialized "java/lang/System" ∈ kWS := ⟨(kmem (i := 728) (by decide +kernel) (by decide +kernel)), (kmem (i := 470) (by decide +kernel) (by decide +kernel)), (kmem (i := 469) (by decide +kernel) (by decide +kernel)), (kmem (i := 116) (by decide +kernel) (by decide +kernel))⟩
theorem T_De_12 : kFL "KeyScreen$Desk" 12 1 0 6 (.object "KeyScreen$Text") := ⟨_, T_De, t_De, rfl, by decide, in_De, (kmem (i := 176) (by decide +kernel) (by decide +kernel)), ok_De, nm_De, rfl⟩
theorem U_De_12 : kFe "KeyScreen$Desk" 12 1 0 := kFe.mk T_De_12 (fun _ => rfl) (fun h => absurd h (by decide)) (fun h => absurd h (by decide)) (fun h => absurd h (by decide))
theorem T_De_18 : kFL "KeyScreen$Desk" 18 1 1 6 (.object "KeyScreen$Text") := ⟨_, T_De, t_De, rfl, by decide, in_De, (kmem (i := 180) (by decide +kernel) (by decide +kernel)), ok_De, nm_De, rfl⟩
theorem U_De_18 : kFe "KeyScreen$Desk" 18 1 1 := kFe.mk T_De_18 (fun _ => rfl) (fun h => absurd h (by decide)) (fun h => absurd h (by decide)) (fun h => absurd h (by decide))
theorem T_De_21 : kFL "KeyScreen$Desk" 21 1 2 6 (.object "KeyScreen$Text") := ⟨_, T_De, t_De, rfl, by decide, in_De, (kmem (i := 183) (by decide +kernel) (by decide +kernel)), ok_De, nm_De, rfl⟩
theorem U_De_21 : kFe "KeyScreen$Desk" 21 1 2 := kFe.mk T_De_21 (fun _ => rfl) (fun h => absurd h (by decide)) (fun h => absurd h (by decide)) (fun h => absurd h (by decide))
theorem T_De_24 : kFL "KeyScreen$Desk" 24 1 3 6 (.object "KeyScreen$Text") := ⟨_, T_De, t_De, rfl, by decide, in_De, (kmem (i := 185) (by decide +kernel) (by decide +kernel)), ok_De, nm_De, rfl⟩
theorem U_De_24 : kFe "KeyScreen$Desk" 24 1 3 := kFe.mk T_De_24 (fun _ => rfl) (fun h => absurd h (by decide)) (fun h => absurd h (by decide)) (fun h => absurd h (by decide))
theorem T_De_27 : kFL "KeyScreen$Desk" 27 2 2 5 (.int) := ⟨_, T_Te, t_Te, rfl, by decide, in_Te, (kmem (i := 144) (by decide +kernel) (by decide +kernel)), ok_Te, nm_Te, rfl⟩
theorem U_De_27 : kFe "KeyScreen$Desk" 27 2 2 := kFe.mk T_De_27 (fun _ => rfl) (fun _ => ⟨rfl, ⟨_, _, _, rfl, rfl⟩⟩) (fun h => absurd h (by decide)) (fun h => absurd h (by decide))
theorem T_De_31 : kFL "KeyScreen$Desk" 31 1 4 6 (.int) := ⟨_, T_De, t_De, rfl, by decide, in_De, (kmem (i := 187) (by decide +kernel) (by decide +kernel)), ok_De, nm_De, rfl⟩
theorem U_De_31 : kFe "KeyScreen$Desk" 31 1 4 := kFe.mk T_De_31 (fun _ => rfl) (fun _ => ⟨rfl, ⟨_, _, _, rfl, rfl⟩⟩) (fun h => absurd h (by decide)) (fun h => absurd h (by decide))
theorem T_De_37 : kFL "KeyScreen$Desk" 37 1 5 6 (.boolean) := ⟨_, T_De, t_De, rfl, by decide, in_De, (kmem (i := 190) (by decide +kernel) (by decide +kernel)), ok_De, nm_De, rfl⟩
theorem U_De_37 : kFe "KeyScreen$Desk" 37 1 5 := kFe.mk T_De_37 (fun _ => rfl) (fun h => absurd h (by decide)) (fun _ => ⟨rfl, ⟨_, _, _, rfl, rfl⟩⟩) (fun h => absurd h (by decide))
theorem T_De_49 : kFL "KeyScreen$Desk" 49 2 3 5 (.int) := ⟨_, T_Te, t_Te, rfl, by decide, in_Te, (kmem (i := 156) (by decide +kernel) (by decide +kernel)), ok_Te, nm_Te, rfl⟩
theorem U_De_49 : kFe "KeyScreen$Desk" 49 2 3 := kFe.mk T_De_49 (fun _ => rfl) (fun _ => ⟨rfl, ⟨_, _, _, rfl, rfl⟩⟩) (fun h => absurd h (by decide)) (fun h => absurd h (by decide))
theorem T_De_75 : kFL "KeyScreen$Desk" 75 2 0 5 (.array .int) := ⟨_, T_Te, t_Te, rfl, by decide, in_Te, (kmem (i := 140) (by decide +kernel) (by decide +kernel)), ok_Te, nm_Te, rfl⟩
theorem U_De_75 : kFe "KeyScreen$Desk" 75 2 0 := kFe.mk T_De_75 (fun _ => rfl) (fun h => absurd h (by decide)) (fun h => absurd h (by decide)) (fun h => absurd h (by decide))
theorem T_De_85 : kFL "KeyScreen$Desk" 85 2 1 5 (.array .int) := ⟨_, T_Te, t_Te, rfl, by decide, in_Te, (kmem (i := 143) (by decide +kernel) (by decide +kernel)), ok_Te, nm_Te, rfl⟩
theorem U_De_85 : kFe "KeyScreen$Desk" 85 2 1 := kFe.mk T_De_85 (fun _ => rfl) (fun h => absurd h (by decide)) (fun h => absurd h (by decide)) (fun h => absurd h (by decide))
def F_De : Nat → Option (Nat × Nat) := fun idx => ([(12, 1, 0), (18, 1, 1), (21, 1, 2), (24, 1, 3), (27, 2, 2), (31, 1, 4), (37, 1, 5), (49, 2, 3), (75, 2, 0), (85, 2, 1)] : List (Nat × Nat × Nat)).lookup idx
theorem hF_De : kFok "KeyScreen$Desk" F_De := kFok_of (List.forall_mem_cons.mpr ⟨U_De_12, (List.forall_mem_cons.mpr ⟨U_De_18, (List.forall_mem_cons.mpr ⟨U_De_21, (List.forall_mem_cons.mpr ⟨U_De_24, (List.forall_mem_cons.mpr ⟨U_De_27, (List.forall_mem_cons.mpr ⟨U_De_31, (List.forall_mem_cons.mpr ⟨U_De_37, (List.forall_mem_cons.mpr ⟨U_De_49, (List.forall_mem_cons.mpr ⟨U_De_75, (List.forall_mem_cons.mpr ⟨U_De_85, (fun _ h => absurd h List.not_mem_nil)⟩)⟩)⟩)⟩)⟩)⟩)⟩)⟩)⟩)⟩)
theorem c_De_34 : kCV "KeyScreen$Desk" 34 y_Te_reset m_Te_reset 2 0 := ⟨⟨cd_Te_reset, (kmem (i := 640) (by decide +kernel) (by decide +kernel)), (kmem (i := 641) (by decide +kernel) (by decide +kernel)), (kmem (i := 642) (by decide +kernel) (by decide +kernel)), (kmem (i := 106) (by decide +kernel) (by decide +kernel))⟩, by decide +kernel, ⟨_, _, rfl, fun _ => rfl⟩⟩
theorem c_De_41 : kCV "KeyScreen$Desk" 41 y_Te_copy m_Te_copy 2 1 := ⟨⟨cd_Te_copy, (kmem (i := 788) (by decide +kernel) (by decide +kernel)), (kmem (i := 620) (by decide +kernel) (by decide +kernel)), (kmem (i := 621) (by decide +kernel) (by decide +kernel)), (kmem (i := 106) (by decide +kernel) (by decide +kernel))⟩, by decide +kernel, ⟨_, _, rfl, fun _ => rfl⟩⟩
theorem c_De_45 : kCV "KeyScreen$Desk" 45 y_Te_copyLines m_Te_copyLines 2 3 := ⟨⟨cd_Te_copyLines, (kmem (i := 631) (by decide +kernel) (by decide +kernel)), (kmem (i := 596) (by decide +kernel) (by decide +kernel)), (kmem (i := 597) (by decide +kernel) (by decide +kernel)), (kmem (i := 106) (by decide +kernel) (by decide +kernel))⟩, by decide +kernel, ⟨_, _, rfl, fun _ => rfl⟩⟩
theorem c_De_52 : kCV "KeyScreen$Desk" 52 y_Te_copyLetters m_Te_copyLetters 2 4 := ⟨⟨cd_Te_copyLetters, (kmem (i := 748) (by decide +kernel) (by decide +kernel)), (kmem (i := 749) (by decide +kernel) (by decide +kernel)), (kmem (i := 750) (by decide +kernel) (by decide +kernel)), (kmem (i := 106) (by decide +kernel) (by decide +kernel))⟩, by decide +kernel, ⟨_, _, rfl, fun _ => rfl⟩⟩
theorem c_De_56 : kCV "KeyScreen$Desk" 56 y_Te_closeLines m_Te_closeLines 2 2 := ⟨⟨cd_Te_closeLines, (kmem (i := 636) (by decide +kernel) (by decide +kernel)), (kmem (i := 637) (by decide +kernel) (by decide +kernel)), (kmem (i := 638) (by decide +kernel) (by decide +kernel)), (kmem (i := 106) (by decide +kernel) (by decide +kernel))⟩, by decide +kernel, ⟨_, _, rfl, fun _ => rfl⟩⟩
theorem c_De_60 : kCV "KeyScreen$Desk" 60 y_Te_stand m_Te_stand 2 2 := ⟨⟨cd_Te_stand, (kmem (i := 644) (by decide +kernel) (by decide +kernel)), (kmem (i := 551) (by decide +kernel) (by decide +kernel)), (kmem (i := 552) (by decide +kernel) (by decide +kernel)), (kmem (i := 106) (by decide +kernel) (by decide +kernel))⟩, by decide +kernel, ⟨_, _, rfl, fun _ => rfl⟩⟩
theorem c_De_63 : kCV "KeyScreen$Desk" 63 y_Te_sizeOf m_Te_sizeOf 2 1 := ⟨⟨cd_Te_sizeOf, (kmem (i := 734) (by decide +kernel) (by decide +kernel)), (kmem (i := 457) (by decide +kernel) (by decide +kernel)), (kmem (i := 458) (by decide +kernel) (by decide +kernel)), (kmem (i := 106) (by decide +kernel) (by decide +kernel))⟩, by decide +kernel, ⟨_, _, rfl, fun _ => rfl⟩⟩
theorem c_De_67 : kCV "KeyScreen$Desk" 67 y_Te_closeLetters m_Te_closeLetters 2 3 := ⟨⟨cd_Te_closeLetters, (kmem (i := 735) (by decide +kernel) (by decide +kernel)), (kmem (i := 490) (by decide +kernel) (by decide +kernel)), (kmem (i := 491) (by decide +kernel) (by decide +kernel)), (kmem (i := 106) (by decide +kernel) (by decide +kernel))⟩, by decide +kernel, ⟨_, _, rfl, fun _ => rfl⟩⟩
theorem c_De_71 : kCV "KeyScreen$Desk" 71 y_Te_openLines m_Te_openLines 2 2 := ⟨⟨cd_Te_openLines, (kmem (i := 769) (by decide +kernel) (by decide +kernel)), (kmem (i := 465) (by decide +kernel) (by decide +kernel)), (kmem (i := 466) (by decide +kernel) (by decide +kernel)), (kmem (i := 106) (by decide +kernel) (by decide +kernel))⟩, by decide +kernel, ⟨_, _, rfl, fun _ => rfl⟩⟩
theorem w_De_79 : Cond.methodLink "KeyScreen$Desk" 79 arraycopyName ∈ kWS ∧ Cond.native arraycopyName ∈ kWS ∧ Cond.static arraycopyName ∈ kWS ∧ Cond.initialized "java/lang/System" ∈ kWS := ⟨(kmem (i := 770) (by decide +kernel) (by decide +kernel)), (kmem (i := 470) (by decide +kernel) (by decide +kernel)), (kmem (i := 469) (by decide +kernel) (by decide +kernel)), (kmem (i := 116) (by decide +kernel) (by decide +kernel))⟩
theorem c_De_88 : kCV "KeyScreen$Desk" 88 y_Te_openLetters m_Te_openLetters 2 3 := ⟨⟨cd_Te_openLetters, (kmem (i := 775) (by decide +kernel) (by decide +kernel)), (kmem (i := 478) (by decide +kernel) (by decide +kernel)), (kmem (i := 479) (by decide +kernel) (by decide +kernel)), (kmem (i := 106) (by decide +kernel) (by decide +kernel))⟩, by decide +kernel, ⟨_, _, rfl, fun _ => rfl⟩⟩
theorem T_Di_12 : kFL "KeyScreen$Disk" 12 3 0 7 (.object "KeyScreen$Text") := ⟨_, T_Di, t_Di, rfl, by decide, in_Di, (kmem (i := 215) (by decide +kernel) (by decide +kernel)), ok_Di, nm_Di, rfl⟩
theorem U_Di_12 : kFe "KeyScreen$Disk" 12 3 0 := kFe.mk T_Di_12 (fun _ => rfl) (fun h => absurd h (by decide)) (fun h => absurd h (by decide)) (fun h => absurd h (by decide))
theorem T_Di_18 : kFL "KeyScreen$Disk" 18 3 1 7 (.object "KeyScreen$Text") := ⟨_, T_Di, t_Di, rfl, by decide, in_Di, (kmem (i := 217) (by decide +kernel) (by decide +kernel)), ok_Di, nm_Di, rfl⟩
theorem U_Di_18 : kFe "KeyScreen$Disk" 18 3 1 := kFe.mk T_Di_18 (fun _ => rfl) (fun h => absurd h (by decide)) (fun h => absurd h (by decide)) (fun h => absurd h (by decide))
theorem T_Di_21 : kFL "KeyScreen$Disk" 21 3 2 7 (.array (.object "KeyScreen$Text")) := ⟨_, T_Di, t_Di, rfl, by decide, in_Di, (kmem (i := 218) (by decide +kernel) (by decide +kernel)), ok_Di, nm_Di, rfl⟩
theorem U_Di_21 : kFe "KeyScreen$Disk" 21 3 2 := kFe.mk T_Di_21 (fun _ => rfl) (fun h => absurd h (by decide)) (fun h => absurd h (by decide)) (fun h => absurd h (by decide))
theorem T_Di_25 : kFL "KeyScreen$Disk" 25 3 3 7 (.array .boolean) := ⟨_, T_Di, t_Di, rfl, by decide, in_Di, (kmem (i := 219) (by decide +kernel) (by decide +kernel)), ok_Di, nm_Di, rfl⟩
theorem U_Di_25 : kFe "KeyScreen$Disk" 25 3 3 := kFe.mk T_Di_25 (fun _ => rfl) (fun h => absurd h (by decide)) (fun h => absurd h (by decide)) (fun h => absurd h (by decide))
theorem T_Di_29 : kFL "KeyScreen$Disk" 29 3 4 7 (.array .int) := ⟨_, T_Di, t_Di, rfl, by decide, in_Di, (kmem (i := 220) (by decide +kernel) (by decide +kernel)), ok_Di, nm_Di, rfl⟩
theorem U_Di_29 : kFe "KeyScreen$Disk" 29 3 4 := kFe.mk T_Di_29 (fun _ => rfl) (fun h => absurd h (by decide)) (fun h => absurd h (by decide)) (fun h => absurd h (by decide))
theorem T_Di_33 : kFL "KeyScreen$Disk" 33 3 6 7 (.int) := ⟨_, T_Di, t_Di, rfl, by decide, in_Di, (kmem (i := 222) (by decide +kernel) (by decide +kernel)), ok_Di, nm_Di, rfl⟩
theorem U_Di_33 : kFe "KeyScreen$Disk" 33 3 6 := kFe.mk T_Di_33 (fun _ => rfl) (fun _ => ⟨rfl, ⟨_, _, _, rfl, rfl⟩⟩) (fun h => absurd h (by decide)) (fun h => absurd h (by decide))
theorem T_Di_37 : kFL "KeyScreen$Disk" 37 3 5 7 (.int) := ⟨_, T_Di, t_Di, rfl, by decide, in_Di, (kmem (i := 221) (by decide +kernel) (by decide +kernel)), ok_Di, nm_Di, rfl⟩
theorem U_Di_37 : kFe "KeyScreen$Disk" 37 3 5 := kFe.mk T_Di_37 (fun _ => rfl) (fun _ => ⟨rfl, ⟨_, _, _, rfl, rfl⟩⟩) (fun h => absurd h (by decide)) (fun h => absurd h (by decide))
theorem T_Di_48 : kFL "KeyScreen$Disk" 48 2 2 5 (.int) := ⟨_, T_Te, t_Te, rfl, by decide, in_Te, (kmem (i := 148) (by decide +kernel) (by decide +kernel)), ok_Te, nm_Te, rfl⟩
theorem U_Di_48 : kFe "KeyScreen$Disk" 48 2 2 := kFe.mk T_Di_48 (fun _ => rfl) (fun _ => ⟨rfl, ⟨_, _, _, rfl, rfl⟩⟩) (fun h => absurd h (by decide)) (fun h => absurd h (by decide))
def F_Di : Nat → Option (Nat × Nat) := fun idx => ([(12, 3, 0), (18, 3, 1), (21, 3, 2), (25, 3, 3), (29, 3, 4), (33, 3, 6), (37, 3, 5), (48, 2, 2)] : List (Nat × Nat × Nat)).lookup idx
theorem hF_Di : kFok "KeyScreen$Disk" F_Di := kFok_of (List.forall_mem_cons.mpr ⟨U_Di_12, (List.forall_mem_cons.mpr ⟨U_Di_18, (List.forall_mem_cons.mpr ⟨U_Di_21, (List.forall_mem_cons.mpr ⟨U_Di_25, (List.forall_mem_cons.mpr ⟨U_Di_29, (List.forall_mem_cons.mpr ⟨U_Di_33, (List.forall_mem_cons.mpr ⟨U_Di_37, (List.forall_mem_cons.mpr ⟨U_Di_48, (fun _ h => absurd h List.not_mem_nil)⟩)⟩)⟩)⟩)⟩)⟩)⟩)⟩)
theorem c_Di_40 : kCV "KeyScreen$Disk" 40 y_Te_copyLines m_Te_copyLines 2 3 := ⟨⟨cd_Te_copyLines, (kmem (i := 595) (by decide +kernel) (by decide +kernel)), (kmem (i := 596) (by decide +kernel) (by decide +kernel)), (kmem (i := 597) (by decide +kernel) (by decide +kernel)), (kmem (i := 106) (by decide +kernel) (by decide +kernel))⟩, by decide +kernel, ⟨_, _, rfl, fun _ => rfl⟩⟩
theorem c_Di_44 : kCV "KeyScreen$Disk" 44 y_Te_copy m_Te_copy 2 1 := ⟨⟨cd_Te_copy, (kmem (i := 835) (by decide +kernel) (by decide +kernel)), (kmem (i := 620) (by decide +kernel) (by decide +kernel)), (kmem (i := 621) (by decide +kernel) (by decide +kernel)), (kmem (i := 106) (by decide +kernel) (by decide +kernel))⟩, by decide +kernel, ⟨_, _, rfl, fun _ => rfl⟩⟩
theorem T_Wi_9 : kFL "KeyScreen$Window" 9 4 0 5 (.array .int) := ⟨_, T_Wi, t_Wi, rfl, by decide, in_Wi, (kmem (i := 251) (by decide +kernel) (by decide +kernel)), ok_Wi, nm_Wi, rfl⟩
theorem U_Wi_9 : kFe "KeyScreen$Window" 9 4 0 := kFe.mk T_Wi_9 (fun _ => rfl) (fun h => absurd h (by decide)) (fun h => absurd h (by decide)) (fun h => absurd h (by decide))
theorem T_Wi_15 : kFL "KeyScreen$Window" 15 4 1 5 (.array .int) := ⟨_, T_Wi, t_Wi, rfl, by decide, in_Wi, (kmem (i := 252) (by decide +kernel) (by decide +kernel)), ok_Wi, nm_Wi, rfl⟩
theorem U_Wi_15 : kFe "KeyScreen$Window" 15 4 1 := kFe.mk T_Wi_15 (fun _ => rfl) (fun h => absurd h (by decide)) (fun h => absurd h (by decide)) (fun h => absurd h (by decide))
theorem T_Wi_18 : kFL "KeyScreen$Window" 18 4 2 5 (.int) := ⟨_, T_Wi, t_Wi, rfl, by decide, in_Wi, (kmem (i := 253) (by decide +kernel) (by decide +kernel)), ok_Wi, nm_Wi, rfl⟩
theorem U_Wi_18 : kFe "KeyScreen$Window" 18 4 2 := kFe.mk T_Wi_18 (fun _ => rfl) (fun _ => ⟨rfl, ⟨_, _, _, rfl, rfl⟩⟩) (fun h => absurd h (by decide)) (fun h => absurd h (by decide))
theorem T_Wi_38 : kFL "KeyScreen$Window" 38 4 3 5 (.int) := ⟨_, T_Wi, t_Wi, rfl, by decide, in_Wi, (kmem (i := 254) (by decide +kernel) (by decide +kernel)), ok_Wi, nm_Wi, rfl⟩
theorem U_Wi_38 : kFe "KeyScreen$Window" 38 4 3 := kFe.mk T_Wi_38 (fun _ => rfl) (fun _ => ⟨rfl, ⟨_, _, _, rfl, rfl⟩⟩) (fun h => absurd h (by decide)) (fun h => absurd h (by decide))
theorem T_Wi_41 : kFL "KeyScreen$Window" 41 2 3 5 (.int) := ⟨_, T_Te, t_Te, rfl, by decide, in_Te, (kmem (i := 155) (by decide +kernel) (by decide +kernel)), ok_Te, nm_Te, rfl⟩
theorem U_Wi_41 : kFe "KeyScreen$Window" 41 2 3 := kFe.mk T_Wi_41 (fun _ => rfl) (fun _ => ⟨rfl, ⟨_, _, _, rfl, rfl⟩⟩) (fun h => absurd h (by decide)) (fun h => absurd h (by decide))
theorem T_Wi_63 : kFL "KeyScreen$Window" 63 2 2 5 (.int) := ⟨_, T_Te, t_Te, rfl, by decide, in_Te, (kmem (i := 150) (by decide +kernel) (by decide +kernel)), ok_Te, nm_Te, rfl⟩
theorem U_Wi_63 : kFe "KeyScreen$Window" 63 2 2 := kFe.mk T_Wi_63 (fun _ => rfl) (fun _ => ⟨rfl, ⟨_, _, _, rfl, rfl⟩⟩) (fun h => absurd h (by decide)) (fun h => absurd h (by decide))
theorem T_Wi_66 : kFL "KeyScreen$Window" 66 2 0 5 (.array .int) := ⟨_, T_Te, t_Te, rfl, by decide, in_Te, (kmem (i := 139) (by decide +kernel) (by decide +kernel)), ok_Te, nm_Te, rfl⟩
theorem U_Wi_66 : kFe "KeyScreen$Window" 66 2 0 := kFe.mk T_Wi_66 (fun _ => rfl) (fun h => absurd h (by decide)) (fun h => absurd h (by decide)) (fun h => absurd h (by decide))
theorem T_Wi_75 : kFL "KeyScreen$Window" 75 4 4 5 (.int) := ⟨_, T_Wi, t_Wi, rfl, by decide, in_Wi, (kmem (i := 256) (by decide +kernel) (by decide +kernel)), ok_Wi, nm_Wi, rfl⟩
theorem U_Wi_75 : kFe "KeyScreen$Window" 75 4 4 := kFe.mk T_Wi_75 (fun _ => rfl) (fun _ => ⟨rfl, ⟨_, _, _, rfl, rfl⟩⟩) (fun h => absurd h (by decide)) (fun h => absurd h (by decide))
def F_Wi : Nat → Option (Nat × Nat) := fun idx => ([(9, 4, 0), (15, 4, 1), (18, 4, 2), (38, 4, 3), (41, 2, 3), (63, 2, 2), (66, 2, 0), (75, 4, 4)] : List (Nat × Nat × Nat)).lookup idx
theorem hF_Wi : kFok "KeyScreen$Window" F_Wi := kFok_of (List.forall_mem_cons.mpr ⟨U_Wi_9, (List.forall_mem_cons.mpr ⟨U_Wi_15, (List.forall_mem_cons.mpr ⟨U_Wi_18, (List.forall_mem_cons.mpr ⟨U_Wi_38, (List.forall_mem_cons.mpr ⟨U_Wi_41, (List.forall_mem_cons.mpr ⟨U_Wi_63, (List.forall_mem_cons.mpr ⟨U_Wi_66, (List.forall_mem_cons.mpr ⟨U_Wi_75, (fun _ h => absurd h List.not_mem_nil)⟩)⟩)⟩)⟩)⟩)⟩)⟩)⟩)
theorem c_Wi_22 : kCS "KeyScreen$Window" 22 y_Ar_fill2 m_Ar_fill2 2 := ⟨⟨cd_Ar_fill2, (kmem (i := 248) (by decide +kernel) (by decide +kernel)), (kmem (i := 249) (by decide +kernel) (by decide +kernel)), (kmem (i := 109) (by decide +kernel) (by decide +kernel))⟩, by decide +kernel⟩
theorem c_Wi_28 : kCV "KeyScreen$Window" 28 y_Wi_follow m_Wi_follow 4 1 := ⟨⟨cd_Wi_follow, (kmem (i := 799) (by decide +kernel) (by decide +kernel)), (kmem (i := 801) (by decide +kernel) (by decide +kernel)), (kmem (i := 35) (by decide +kernel) (by decide +kernel)), (kmem (i := 108) (by decide +kernel) (by decide +kernel))⟩, by decide +kernel, ⟨_, _, rfl, fun _ => rfl⟩⟩
theorem c_Wi_32 : kCV "KeyScreen$Window" 32 y_Wi_paint m_Wi_paint 4 1 := ⟨⟨cd_Wi_paint, (kmem (i := 810) (by decide +kernel) (by decide +kernel)), (kmem (i := 812) (by decide +kernel) (by decide +kernel)), (kmem (i := 37) (by decide +kernel) (by decide +kernel)), (kmem (i := 108) (by decide +kernel) (by decide +kernel))⟩, by decide +kernel, ⟨_, _, rfl, fun _ => rfl⟩⟩
theorem c_Wi_35 : kCV "KeyScreen$Window" 35 y_Wi_send m_Wi_send 4 0 := ⟨⟨cd_Wi_send, (kmem (i := 815) (by decide +kernel) (by decide +kernel)), (kmem (i := 817) (by decide +kernel) (by decide +kernel)), (kmem (i := 38) (by decide +kernel) (by decide +kernel)), (kmem (i := 108) (by decide +kernel) (by decide +kernel))⟩, by decide +kernel, ⟨_, _, rfl, fun _ => rfl⟩⟩
theorem w_Wi_46 : Cond.methodLink "KeyScreen$Window" 46 Lib.Math.min.name ∈ kWS ∧ Cond.static Lib.Math.min.name ∈ kWS ∧ Cond.initialized "java/lang/Math" ∈ kWS ∧ Cond.code Lib.Math.min.name Lib.Math.min.code 2 (some .int) ∈ kWS := ⟨(kmem (i := 803) (by decide +kernel) (by decide +kernel)), (kmem (i := 461) (by decide +kernel) (by decide +kernel)), (kmem (i := 114) (by decide +kernel) (by decide +kernel)), (kmem (i := 462) (by decide +kernel) (by decide +kernel))⟩
theorem c_Wi_52 : kCV "KeyScreen$Window" 52 y_Wi_rowsOf m_Wi_rowsOf 4 2 := ⟨⟨cd_Wi_rowsOf, (kmem (i := 804) (by decide +kernel) (by decide +kernel)), (kmem (i := 806) (by decide +kernel) (by decide +kernel)), (kmem (i := 36) (by decide +kernel) (by decide +kernel)), (kmem (i := 108) (by decide +kernel) (by decide +kernel))⟩, by decide +kernel, ⟨_, _, rfl, fun _ => rfl⟩⟩
theorem c_Wi_56 : kCV "KeyScreen$Window" 56 y_Te_sizeOf m_Te_sizeOf 2 1 := ⟨⟨cd_Te_sizeOf, (kmem (i := 808) (by decide +kernel) (by decide +kernel)), (kmem (i := 457) (by decide +kernel) (by decide +kernel)), (kmem (i := 458) (by decide +kernel) (by decide +kernel)), (kmem (i := 106) (by decide +kernel) (by decide +kernel))⟩, by decide +kernel, ⟨_, _, rfl, fun _ => rfl⟩⟩
theorem w_Wi_60 : Cond.methodLink "KeyScreen$Window" 60 Lib.Math.max.name ∈ kWS ∧ Cond.static Lib.Math.max.name ∈ kWS ∧ Cond.initialized "java/lang/Math" ∈ kWS ∧ Cond.code Lib.Math.max.name Lib.Math.max.code 2 (some .int) ∈ kWS := ⟨(kmem (i := 809) (by decide +kernel) (by decide +kernel)), (kmem (i := 365) (by decide +kernel) (by decide +kernel)), (kmem (i := 114) (by decide +kernel) (by decide +kernel)), (kmem (i := 366) (by decide +kernel) (by decide +kernel))⟩
theorem w_Wi_69 : Cond.methodLink "KeyScreen$Window" 69 arraycopyName ∈ kWS ∧ Cond.native arraycopyName ∈ kWS ∧ Cond.static arraycopyName ∈ kWS ∧ Cond.initialized "java/lang/System" ∈ kWS := ⟨(kmem (i := 814) (by decide +kernel) (by decide +kernel)), (kmem (i := 470) (by decide +kernel) (by decide +kernel)), (kmem (i := 469) (by decide +kernel) (by decide +kernel)), (kmem (i := 116) (by decide +kernel) (by decide +kernel))⟩
theorem T_Mo_15 : kFL "KeyScreen$Motion" 15 2 3 5 (.int) := ⟨_, T_Te, t_Te, rfl, by decide, in_Te, (kmem (i := 152) (by decide +kernel) (by decide +kernel)), ok_Te, nm_Te, rfl⟩
theorem U_Mo_15 : kFe "KeyScreen$Motion" 15 2 3 := kFe.mk T_Mo_15 (fun _ => rfl) (fun _ => ⟨rfl, ⟨_, _, _, rfl, rfl⟩⟩) (fun h => absurd h (by decide)) (fun h => absurd h (by decide))
theorem T_Mo_21 : kFL "KeyScreen$Motion" 21 2 4 5 (.int) := ⟨_, T_Te, t_Te, rfl, by decide, in_Te, (kmem (i := 159) (by decide +kernel) (by decide +kernel)), ok_Te, nm_Te, rfl⟩
theorem U_Mo_21 : kFe "KeyScreen$Motion" 21 2 4 := kFe.mk T_Mo_21 (fun _ => rfl) (fun _ => ⟨rfl, ⟨_, _, _, rfl, rfl⟩⟩) (fun h => absurd h (by decide)) (fun h => absurd h (by decide))
theorem T_Mo_36 : kFL "KeyScreen$Motion" 36 2 2 5 (.int) := ⟨_, T_Te, t_Te, rfl, by decide, in_Te, (kmem (i := 146) (by decide +kernel) (by decide +kernel)), ok_Te, nm_Te, rfl⟩
theorem U_Mo_36 : kFe "KeyScreen$Motion" 36 2 2 := kFe.mk T_Mo_36 (fun _ => rfl) (fun _ => ⟨rfl, ⟨_, _, _, rfl, rfl⟩⟩) (fun h => absurd h (by decide)) (fun h => absurd h (by decide))
def F_Mo : Nat → Option (Nat × Nat) := fun idx => ([(15, 2, 3), (21, 2, 4), (36, 2, 2)] : List (Nat × Nat × Nat)).lookup idx
theorem hF_Mo : kFok "KeyScreen$Motion" F_Mo := kFok_of (List.forall_mem_cons.mpr ⟨U_Mo_15, (List.forall_mem_cons.mpr ⟨U_Mo_21, (List.forall_mem_cons.mpr ⟨U_Mo_36, (fun _ h => absurd h List.not_mem_nil)⟩)⟩)⟩)
theorem w_Mo_9 : Cond.methodLink "KeyScreen$Motion" 9 Lib.Math.max.name ∈ kWS ∧ Cond.static Lib.Math.max.name ∈ kWS ∧ Cond.initialized "java/lang/Math" ∈ kWS ∧ Cond.code Lib.Math.max.name Lib.Math.max.code 2 (some .int) ∈ kWS := ⟨(kmem (i := 691) (by decide +kernel) (by decide +kernel)), (kmem (i := 365) (by decide +kernel) (by decide +kernel)), (kmem (i := 114) (by decide +kernel) (by decide +kernel)), (kmem (i := 366) (by decide +kernel) (by decide +kernel))⟩
theorem c_Mo_24 : kCV "KeyScreen$Motion" 24 y_Te_sizeOf m_Te_sizeOf 2 1 := ⟨⟨cd_Te_sizeOf, (kmem (i := 692) (by decide +kernel) (by decide +kernel)), (kmem (i := 457) (by decide +kernel) (by decide +kernel)), (kmem (i := 458) (by decide +kernel) (by decide +kernel)), (kmem (i := 106) (by decide +kernel) (by decide +kernel))⟩, by decide +kernel, ⟨_, _, rfl, fun _ => rfl⟩⟩
theorem c_Mo_28 : kCS "KeyScreen$Motion" 28 y_Mo_place m_Mo_place 2 := ⟨⟨cd_Mo_place, (kmem (i := 693) (by decide +kernel) (by decide +kernel)), (kmem (i := 694) (by decide +kernel) (by decide +kernel)), (kmem (i := 117) (by decide +kernel) (by decide +kernel))⟩, by decide +kernel⟩
theorem w_Mo_33 : Cond.methodLink "KeyScreen$Motion" 33 Lib.Math.min.name ∈ kWS ∧ Cond.static Lib.Math.min.name ∈ kWS ∧ Cond.initialized "java/lang/Math" ∈ kWS ∧ Cond.code Lib.Math.min.name Lib.Math.min.code 2 (some .int) ∈ kWS := ⟨(kmem (i := 696) (by decide +kernel) (by decide +kernel)), (kmem (i := 461) (by decide +kernel) (by decide +kernel)), (kmem (i := 114) (by decide +kernel) (by decide +kernel)), (kmem (i := 462) (by decide +kernel) (by decide +kernel))⟩
theorem c_Mo_39 : kCS "KeyScreen$Motion" 39 y_Mo_stopBehind m_Mo_stopBehind 3 := ⟨⟨cd_Mo_stopBehind, (kmem (i := 697) (by decide +kernel) (by decide +kernel)), (kmem (i := 698) (by decide +kernel) (by decide +kernel)), (kmem (i := 117) (by decide +kernel) (by decide +kernel))⟩, by decide +kernel⟩
theorem c_Mo_43 : kCS "KeyScreen$Motion" 43 y_Mo_stopBefore m_Mo_stopBefore 3 := ⟨⟨cd_Mo_stopBefore, (kmem (i := 707) (by decide +kernel) (by decide +kernel)), (kmem (i := 708) (by decide +kernel) (by decide +kernel)), (kmem (i := 117) (by decide +kernel) (by decide +kernel))⟩, by decide +kernel⟩
theorem c_Mo_46 : kCS "KeyScreen$Motion" 46 y_Mo_isStop m_Mo_isStop 3 := ⟨⟨cd_Mo_isStop, (kmem (i := 700) (by decide +kernel) (by decide +kernel)), (kmem (i := 701) (by decide +kernel) (by decide +kernel)), (kmem (i := 117) (by decide +kernel) (by decide +kernel))⟩, by decide +kernel⟩
theorem c_Mo_50 : kCV "KeyScreen$Motion" 50 y_Te_codeAt m_Te_codeAt 2 2 := ⟨⟨cd_Te_codeAt, (kmem (i := 703) (by decide +kernel) (by decide +kernel)), (kmem (i := 482) (by decide +kernel) (by decide +kernel)), (kmem (i := 483) (by decide +kernel) (by decide +kernel)), (kmem (i := 106) (by decide +kernel) (by decide +kernel))⟩, by decide +kernel, ⟨_, _, rfl, fun _ => rfl⟩⟩
theorem c_Mo_53 : kCS "KeyScreen$Motion" 53 y_Mo_kindOf m_Mo_kindOf 1 := ⟨⟨cd_Mo_kindOf, (kmem (i := 704) (by decide +kernel) (by decide +kernel)), (kmem (i := 705) (by decide +kernel) (by decide +kernel)), (kmem (i := 117) (by decide +kernel) (by decide +kernel))⟩, by decide +kernel⟩
theorem T_Pa_9 : kFL "KeyScreen$Pattern" 9 8 0 5 (.array .int) := ⟨_, T_Pa, t_Pa, rfl, by decide, in_Pa, (kmem (i := 283) (by decide +kernel) (by decide +kernel)), ok_Pa, nm_Pa, rfl⟩
theorem U_Pa_9 : kFe "KeyScreen$Pattern" 9 8 0 := kFe.mk T_Pa_9 (fun _ => rfl) (fun h => absurd h (by decide)) (fun h => absurd h (by decide)) (fun h => absurd h (by decide))
theorem T_Pa_21 : kFL "KeyScreen$Pattern" 21 8 1 5 (.int) := ⟨_, T_Pa, t_Pa, rfl, by decide, in_Pa, (kmem (i := 284) (by decide +kernel) (by decide +kernel)), ok_Pa, nm_Pa, rfl⟩
theorem U_Pa_21 : kFe "KeyScreen$Pattern" 21 8 1 := kFe.mk T_Pa_21 (fun _ => rfl) (fun _ => ⟨rfl, ⟨_, _, _, rfl, rfl⟩⟩) (fun h => absurd h (by decide)) (fun h => absurd h (by decide))
theorem T_Pa_25 : kFL "KeyScreen$Pattern" 25 8 3 5 (.boolean) := ⟨_, T_Pa, t_Pa, rfl, by decide, in_Pa, (kmem (i := 286) (by decide +kernel) (by decide +kernel)), ok_Pa, nm_Pa, rfl⟩
theorem U_Pa_25 : kFe "KeyScreen$Pattern" 25 8 3 := kFe.mk T_Pa_25 (fun _ => rfl) (fun h => absurd h (by decide)) (fun _ => ⟨rfl, ⟨_, _, _, rfl, rfl⟩⟩) (fun h => absurd h (by decide))
theorem T_Pa_29 : kFL "KeyScreen$Pattern" 29 8 2 5 (.int) := ⟨_, T_Pa, t_Pa, rfl, by decide, in_Pa, (kmem (i := 285) (by decide +kernel) (by decide +kernel)), ok_Pa, nm_Pa, rfl⟩
theorem U_Pa_29 : kFe "KeyScreen$Pattern" 29 8 2 := kFe.mk T_Pa_29 (fun _ => rfl) (fun _ => ⟨rfl, ⟨_, _, _, rfl, rfl⟩⟩) (fun h => absurd h (by decide)) (fun h => absurd h (by decide))
theorem T_Pa_43 : kFL "KeyScreen$Pattern" 43 8 4 5 (.boolean) := ⟨_, T_Pa, t_Pa, rfl, by decide, in_Pa, (kmem (i := 287) (by decide +kernel) (by decide +kernel)), ok_Pa, nm_Pa, rfl⟩
theorem U_Pa_43 : kFe "KeyScreen$Pattern" 43 8 4 := kFe.mk T_Pa_43 (fun _ => rfl) (fun h => absurd h (by decide)) (fun _ => ⟨rfl, ⟨_, _, _, rfl, rfl⟩⟩) (fun h => absurd h (by decide))
def F_Pa : Nat → Option (Nat × Nat) := fun idx => ([(9, 8, 0), (21, 8, 1), (25, 8, 3), (29, 8, 2), (43, 8, 4)] : List (Nat × Nat × Nat)).lookup idx
theorem hF_Pa : kFok "KeyScreen$Pattern" F_Pa := kFok_of (List.forall_mem_cons.mpr ⟨U_Pa_9, (List.forall_mem_cons.mpr ⟨U_Pa_21, (List.forall_mem_cons.mpr ⟨U_Pa_25, (List.forall_mem_cons.mpr ⟨U_Pa_29, (List.forall_mem_cons.mpr ⟨U_Pa_43, (fun _ h => absurd h List.not_mem_nil)⟩)⟩)⟩)⟩)⟩)
theorem c_Pa_15 : kCS "KeyScreen$Pattern" 15 y_Ar_fill2 m_Ar_fill2 2 := ⟨⟨cd_Ar_fill2, (kmem (i := 519) (by decide +kernel) (by decide +kernel)), (kmem (i := 249) (by decide +kernel) (by decide +kernel)), (kmem (i := 109) (by decide +kernel) (by decide +kernel))⟩, by decide +kernel⟩
theorem c_Pa_32 : kCS "KeyScreen$Pattern" 32 y_Pa_isEndSign m_Pa_isEndSign 3 := ⟨⟨cd_Pa_isEndSign, (kmem (i := 520) (by decide +kernel) (by decide +kernel)), (kmem (i := 521) (by decide +kernel) (by decide +kernel)), (kmem (i := 112) (by decide +kernel) (by decide +kernel))⟩, by decide +kernel⟩
theorem c_Pa_36 : kCV "KeyScreen$Pattern" 36 y_Pa_readSet m_Pa_readSet 8 3 := ⟨⟨cd_Pa_readSet, (kmem (i := 523) (by decide +kernel) (by decide +kernel)), (kmem (i := 525) (by decide +kernel) (by decide +kernel)), (kmem (i := 3) (by decide +kernel) (by decide +kernel)), (kmem (i := 112) (by decide +kernel) (by decide +kernel))⟩, by decide +kernel, ⟨_, _, rfl, fun _ => rfl⟩⟩
theorem c_Pa_40 : kCV "KeyScreen$Pattern" 40 y_Pa_readSingle m_Pa_readSingle 8 3 := ⟨⟨cd_Pa_readSingle, (kmem (i := 527) (by decide +kernel) (by decide +kernel)), (kmem (i := 529) (by decide +kernel) (by decide +kernel)), (kmem (i := 4) (by decide +kernel) (by decide +kernel)), (kmem (i := 112) (by decide +kernel) (by decide +kernel))⟩, by decide +kernel, ⟨_, _, rfl, fun _ => rfl⟩⟩
theorem c_Pa_46 : kCV "KeyScreen$Pattern" 46 y_Te_sizeOf m_Te_sizeOf 2 1 := ⟨⟨cd_Te_sizeOf, (kmem (i := 536) (by decide +kernel) (by decide +kernel)), (kmem (i := 457) (by decide +kernel) (by decide +kernel)), (kmem (i := 458) (by decide +kernel) (by decide +kernel)), (kmem (i := 106) (by decide +kernel) (by decide +kernel))⟩, by decide +kernel, ⟨_, _, rfl, fun _ => rfl⟩⟩
theorem c_Pa_52 : kCV "KeyScreen$Pattern" 52 y_Pa_passStars m_Pa_passStars 8 1 := ⟨⟨cd_Pa_passStars, (kmem (i := 537) (by decide +kernel) (by decide +kernel)), (kmem (i := 539) (by decide +kernel) (by decide +kernel)), (kmem (i := 5) (by decide +kernel) (by decide +kernel)), (kmem (i := 112) (by decide +kernel) (by decide +kernel))⟩, by decide +kernel, ⟨_, _, rfl, fun _ => rfl⟩⟩
theorem c_Pa_55 : kCV "KeyScreen$Pattern" 55 y_Pa_isOver m_Pa_isOver 8 2 := ⟨⟨cd_Pa_isOver, (kmem (i := 541) (by decide +kernel) (by decide +kernel)), (kmem (i := 543) (by decide +kernel) (by decide +kernel)), (kmem (i := 6) (by decide +kernel) (by decide +kernel)), (kmem (i := 112) (by decide +kernel) (by decide +kernel))⟩, by decide +kernel, ⟨_, _, rfl, fun _ => rfl⟩⟩
theorem c_Pa_59 : kCV "KeyScreen$Pattern" 59 y_Te_codeAt m_Te_codeAt 2 2 := ⟨⟨cd_Te_codeAt, (kmem (i := 545) (by decide +kernel) (by decide +kernel)), (kmem (i := 482) (by decide +kernel) (by decide +kernel)), (kmem (i := 483) (by decide +kernel) (by decide +kernel)), (kmem (i := 106) (by decide +kernel) (by decide +kernel))⟩, by decide +kernel, ⟨_, _, rfl, fun _ => rfl⟩⟩
theorem c_Pa_63 : kCV "KeyScreen$Pattern" 63 y_Pa_step m_Pa_step 8 2 := ⟨⟨cd_Pa_step, (kmem (i := 546) (by decide +kernel) (by decide +kernel)), (kmem (i := 548) (by decide +kernel) (by decide +kernel)), (kmem (i := 7) (by decide +kernel) (by decide +kernel)), (kmem (i := 112) (by decide +kernel) (by decide +kernel))⟩, by decide +kernel, ⟨_, _, rfl, fun _ => rfl⟩⟩
theorem T_Cl_12 : kFL "KeyScreen$CommandLine" 12 7 3 18 (.object "KeyScreen$Pattern") := ⟨_, T_Cl, t_Cl, rfl, by decide, in_Cl, (kmem (i := 302) (by decide +kernel) (by decide +kernel)), ok_Cl, nm_Cl, rfl⟩
theorem U_Cl_12 : kFe "KeyScreen$CommandLine" 12 7 3 := kFe.mk T_Cl_12 (fun _ => rfl) (fun h => absurd h (by decide)) (fun h => absurd h (by decide)) (fun h => absurd h (by decide))
theorem T_Cl_18 : kFL "KeyScreen$CommandLine" 18 7 4 18 (.object "KeyScreen$Pattern") := ⟨_, T_Cl, t_Cl, rfl, by decide, in_Cl, (kmem (i := 303) (by decide +kernel) (by decide +kernel)), ok_Cl, nm_Cl, rfl⟩
theorem U_Cl_18 : kFe "KeyScreen$CommandLine" 18 7 4 := kFe.mk T_Cl_18 (fun _ => rfl) (fun h => absurd h (by decide)) (fun h => absurd h (by decide)) (fun h => absurd h (by decide))
theorem T_Cl_21 : kFL "KeyScreen$CommandLine" 21 7 5 18 (.array .int) := ⟨_, T_Cl, t_Cl, rfl, by decide, in_Cl, (kmem (i := 304) (by decide +kernel) (by decide +kernel)), ok_Cl, nm_Cl, rfl⟩
theorem U_Cl_21 : kFe "KeyScreen$CommandLine" 21 7 5 := kFe.mk T_Cl_21 (fun _ => rfl) (fun h => absurd h (by decide)) (fun h => absurd h (by decide)) (fun h => absurd h (by decide))
theorem T_Cl_25 : kFL "KeyScreen$CommandLine" 25 7 0 18 (.object "KeyScreen$Desk") := ⟨_, T_Cl, t_Cl, rfl, by decide, in_Cl, (kmem (i := 299) (by decide +kernel) (by decide +kernel)), ok_Cl, nm_Cl, rfl⟩
theorem U_Cl_25 : kFe "KeyScreen$CommandLine" 25 7 0 := kFe.mk T_Cl_25 (fun _ => rfl) (fun h => absurd h (by decide)) (fun h => absurd h (by decide)) (fun h => absurd h (by decide))
theorem T_Cl_35 : kFL "KeyScreen$CommandLine" 35 7 1 18 (.object "KeyScreen$Text") := ⟨_, T_Cl, t_Cl, rfl, by decide, in_Cl, (kmem (i := 300) (by decide +kernel) (by decide +kernel)), ok_Cl, nm_Cl, rfl⟩
theorem U_Cl_35 : kFe "KeyScreen$CommandLine" 35 7 1 := kFe.mk T_Cl_35 (fun _ => rfl) (fun h => absurd h (by decide)) (fun h => absurd h (by decide)) (fun h => absurd h (by decide))
theorem T_Cl_36 : kFL "KeyScreen$CommandLine" 36 7 2 18 (.object "KeyScreen$Disk") := ⟨_, T_Cl, t_Cl, rfl, by decide, in_Cl, (kmem (i := 301) (by decide +kernel) (by decide +kernel)), ok_Cl, nm_Cl, rfl⟩
theorem U_Cl_36 : kFe "KeyScreen$CommandLine" 36 7 2 := kFe.mk T_Cl_36 (fun _ => rfl) (fun h => absurd h (by decide)) (fun h => absurd h (by decide)) (fun h => absurd h (by decide))
theorem T_Cl_40 : kFL "KeyScreen$CommandLine" 40 7 7 18 (.array .int) := ⟨_, T_Cl, t_Cl, rfl, by decide, in_Cl, (kmem (i := 306) (by decide +kernel) (by decide +kernel)), ok_Cl, nm_Cl, rfl⟩
theorem U_Cl_40 : kFe "KeyScreen$CommandLine" 40 7 7 := kFe.mk T_Cl_40 (fun _ => rfl) (fun h => absurd h (by decide)) (fun h => absurd h (by decide)) (fun _ => ⟨rfl, ⟨_, _, _, rfl, rfl⟩⟩)
theorem T_Cl_43 : kFL "KeyScreen$CommandLine" 43 6 0 2 (.array .int) := ⟨_, T_Ke, t_Ke, rfl, by decide, in_Ke, (kmem (i := 368) (by decide +kernel) (by decide +kernel)), ok_Ke, nm_Ke, rfl⟩
theorem U_Cl_43 : kFe "KeyScreen$CommandLine" 43 6 0 := kFe.mk T_Cl_43 (fun _ => rfl) (fun h => absurd h (by decide)) (fun h => absurd h (by decide)) (fun h => absurd h (by decide))
theorem T_Cl_46 : kFL "KeyScreen$CommandLine" 46 6 1 2 (.int) := ⟨_, T_Ke, t_Ke, rfl, by decide, in_Ke, (kmem (i := 371) (by decide +kernel) (by decide +kernel)), ok_Ke, nm_Ke, rfl⟩
theorem U_Cl_46 : kFe "KeyScreen$CommandLine" 46 6 1 := kFe.mk T_Cl_46 (fun _ => rfl) (fun _ => ⟨rfl, ⟨_, _, _, rfl, rfl⟩⟩) (fun h => absurd h (by decide)) (fun h => absurd h (by decide))
theorem T_Cl_56 : kFL "KeyScreen$CommandLine" 56 7 8 18 (.int) := ⟨_, T_Cl, t_Cl, rfl, by decide, in_Cl, (kmem (i := 307) (by decide +kernel) (by decide +kernel)), ok_Cl, nm_Cl, rfl⟩
theorem U_Cl_56 : kFe "KeyScreen$CommandLine" 56 7 8 := kFe.mk T_Cl_56 (fun _ => rfl) (fun _ => ⟨rfl, ⟨_, _, _, rfl, rfl⟩⟩) (fun h => absurd h (by decide)) (fun h => absurd h (by decide))
theorem T_Cl_59 : kFL "KeyScreen$CommandLine" 59 7 9 18 (.int) := ⟨_, T_Cl, t_Cl, rfl, by decide, in_Cl, (kmem (i := 308) (by decide +kernel) (by decide +kernel)), ok_Cl, nm_Cl, rfl⟩
theorem U_Cl_59 : kFe "KeyScreen$CommandLine" 59 7 9 := kFe.mk T_Cl_59 (fun _ => rfl) (fun _ => ⟨rfl, ⟨_, _, _, rfl, rfl⟩⟩) (fun h => absurd h (by decide)) (fun h => absurd h (by decide))
theorem T_Cl_70 : kFL "KeyScreen$CommandLine" 70 2 2 5 (.int) := ⟨_, T_Te, t_Te, rfl, by decide, in_Te, (kmem (i := 147) (by decide +kernel) (by decide +kernel)), ok_Te, nm_Te, rfl⟩
theorem U_Cl_70 : kFe "KeyScreen$CommandLine" 70 2 2 := kFe.mk T_Cl_70 (fun _ => rfl) (fun _ => ⟨rfl, ⟨_, _, _, rfl, rfl⟩⟩) (fun h => absurd h (by decide)) (fun h => absurd h (by decide))
theorem T_Cl_73 : kFL "KeyScreen$CommandLine" 73 2 3 5 (.int) := ⟨_, T_Te, t_Te, rfl, by decide, in_Te, (kmem (i := 154) (by decide +kernel) (by decide +kernel)), ok_Te, nm_Te, rfl⟩
theorem U_Cl_73 : kFe "KeyScreen$CommandLine" 73 2 3 := kFe.mk T_Cl_73 (fun _ => rfl) (fun _ => ⟨rfl, ⟨_, _, _, rfl, rfl⟩⟩) (fun h => absurd h (by decide)) (fun h => absurd h (by decide))
theorem T_Cl_76 : kFL "KeyScreen$CommandLine" 76 2 4 5 (.int) := ⟨_, T_Te, t_Te, rfl, by decide, in_Te, (kmem (i := 161) (by decide +kernel) (by decide +kernel)), ok_Te, nm_Te, rfl⟩
theorem U_Cl_76 : kFe "KeyScreen$CommandLine" 76 2 4 := kFe.mk T_Cl_76 (fun _ => rfl) (fun _ => ⟨rfl, ⟨_, _, _, rfl, rfl⟩⟩) (fun h => absurd h (by decide)) (fun h => absurd h (by decide))
theorem T_Cl_99 : kFL "KeyScreen$CommandLine" 99 7 12 18 (.int) := ⟨_, T_Cl, t_Cl, rfl, by decide, in_Cl, (kmem (i := 311) (by decide +kernel) (by decide +kernel)), ok_Cl, nm_Cl, rfl⟩
theorem U_Cl_99 : kFe "KeyScreen$CommandLine" 99 7 12 := kFe.mk T_Cl_99 (fun _ => rfl) (fun _ => ⟨rfl, ⟨_, _, _, rfl, rfl⟩⟩) (fun h => absurd h (by decide)) (fun h => absurd h (by decide))
theorem T_Cl_105 : kFL "KeyScreen$CommandLine" 105 7 11 18 (.int) := ⟨_, T_Cl, t_Cl, rfl, by decide, in_Cl, (kmem (i := 310) (by decide +kernel) (by decide +kernel)), ok_Cl, nm_Cl, rfl⟩
theorem U_Cl_105 : kFe "KeyScreen$CommandLine" 105 7 11 := kFe.mk T_Cl_105 (fun _ => rfl) (fun _ => ⟨rfl, ⟨_, _, _, rfl, rfl⟩⟩) (fun h => absurd h (by decide)) (fun h => absurd h (by decide))
theorem T_Cl_123 : kFL "KeyScreen$CommandLine" 123 7 10 18 (.boolean) := ⟨_, T_Cl, t_Cl, rfl, by decide, in_Cl, (kmem (i := 309) (by decide +kernel) (by decide +kernel)), ok_Cl, nm_Cl, rfl⟩
theorem U_Cl_123 : kFe "KeyScreen$CommandLine" 123 7 10 := kFe.mk T_Cl_123 (fun _ => rfl) (fun h => absurd h (by decide)) (fun _ => ⟨rfl, ⟨_, _, _, rfl, rfl⟩⟩) (fun h => absurd h (by decide))
theorem T_Cl_146 : kFL "KeyScreen$CommandLine" 146 7 13 18 (.boolean) := ⟨_, T_Cl, t_Cl, rfl, by decide, in_Cl, (kmem (i := 312) (by decide +kernel) (by decide +kernel)), ok_Cl, nm_Cl, rfl⟩
theorem U_Cl_146 : kFe "KeyScreen$CommandLine" 146 7 13 := kFe.mk T_Cl_146 (fun _ => rfl) (fun h => absurd h (by decide)) (fun _ => ⟨rfl, ⟨_, _, _, rfl, rfl⟩⟩) (fun h => absurd h (by decide))
theorem T_Cl_149 : kFL "KeyScreen$CommandLine" 149 7 14 18 (.boolean) := ⟨_, T_Cl, t_Cl, rfl, by decide, in_Cl, (kmem (i := 313) (by decide +kernel) (by decide +kernel)), ok_Cl, nm_Cl, rfl⟩
theorem U_Cl_149 : kFe "KeyScreen$CommandLine" 149 7 14 := kFe.mk T_Cl_149 (fun _ => rfl) (fun h => absurd h (by decide)) (fun _ => ⟨rfl, ⟨_, _, _, rfl, rfl⟩⟩) (fun h => absurd h (by decide))
theorem T_Cl_155 : kFL "KeyScreen$CommandLine" 155 7 16 18 (.int) := ⟨_, T_Cl, t_Cl, rfl, by decide, in_Cl, (kmem (i := 315) (by decide +kernel) (by decide +kernel)), ok_Cl, nm_Cl, rfl⟩
theorem U_Cl_155 : kFe "KeyScreen$CommandLine" 155 7 16 := kFe.mk T_Cl_155 (fun _ => rfl) (fun _ => ⟨rfl, ⟨_, _, _, rfl, rfl⟩⟩) (fun h => absurd h (by decide)) (fun h => absurd h (by decide))
theorem T_Cl_158 : kFL "KeyScreen$CommandLine" 158 7 17 18 (.int) := ⟨_, T_Cl, t_Cl, rfl, by decide, in_Cl, (kmem (i := 316) (by decide +kernel) (by decide +kernel)), ok_Cl, nm_Cl, rfl⟩
theorem U_Cl_158 : kFe "KeyScreen$CommandLine" 158 7 17 := kFe.mk T_Cl_158 (fun _ => rfl) (fun _ => ⟨rfl, ⟨_, _, _, rfl, rfl⟩⟩) (fun h => absurd h (by decide)) (fun h => absurd h (by decide))
theorem T_Cl_161 : kFL "KeyScreen$CommandLine" 161 7 15 18 (.boolean) := ⟨_, T_Cl, t_Cl, rfl, by decide, in_Cl, (kmem (i := 314) (by decide +kernel) (by decide +kernel)), ok_Cl, nm_Cl, rfl⟩
theorem U_Cl_161 : kFe "KeyScreen$CommandLine" 161 7 15 := kFe.mk T_Cl_161 (fun _ => rfl) (fun h => absurd h (by decide)) (fun _ => ⟨rfl, ⟨_, _, _, rfl, rfl⟩⟩) (fun h => absurd h (by decide))
theorem T_Cl_167 : kFL "KeyScreen$CommandLine" 167 1 2 6 (.object "KeyScreen$Text") := ⟨_, T_De, t_De, rfl, by decide, in_De, (kmem (i := 184) (by decide +kernel) (by decide +kernel)), ok_De, nm_De, rfl⟩
theorem U_Cl_167 : kFe "KeyScreen$CommandLine" 167 1 2 := kFe.mk T_Cl_167 (fun _ => rfl) (fun h => absurd h (by decide)) (fun h => absurd h (by decide)) (fun h => absurd h (by decide))
theorem T_Cl_181 : kFL "KeyScreen$CommandLine" 181 1 1 6 (.object "KeyScreen$Text") := ⟨_, T_De, t_De, rfl, by decide, in_De, (kmem (i := 181) (by decide +kernel) (by decide +kernel)), ok_De, nm_De, rfl⟩
theorem U_Cl_181 : kFe "KeyScreen$CommandLine" 181 1 1 := kFe.mk T_Cl_181 (fun _ => rfl) (fun h => absurd h (by decide)) (fun h => absurd h (by decide)) (fun h => absurd h (by decide))
theorem T_Cl_184 : kFL "KeyScreen$CommandLine" 184 1 5 6 (.boolean) := ⟨_, T_De, t_De, rfl, by decide, in_De, (kmem (i := 191) (by decide +kernel) (by decide +kernel)), ok_De, nm_De, rfl⟩
theorem U_Cl_184 : kFe "KeyScreen$CommandLine" 184 1 5 := kFe.mk T_Cl_184 (fun _ => rfl) (fun h => absurd h (by decide)) (fun _ => ⟨rfl, ⟨_, _, _, rfl, rfl⟩⟩) (fun h => absurd h (by decide))
theorem T_Cl_196 : kFL "KeyScreen$CommandLine" 196 7 6 18 (.int) := ⟨_, T_Cl, t_Cl, rfl, by decide, in_Cl, (kmem (i := 305) (by decide +kernel) (by decide +kernel)), ok_Cl, nm_Cl, rfl⟩
theorem U_Cl_196 : kFe "KeyScreen$CommandLine" 196 7 6 := kFe.mk T_Cl_196 (fun _ => rfl) (fun _ => ⟨rfl, ⟨_, _, _, rfl, rfl⟩⟩) (fun h => absurd h (by decide)) (fun h => absurd h (by decide))
theorem T_Cl_207 : kFL "KeyScreen$CommandLine" 207 2 0 5 (.array .int) := ⟨_, T_Te, t_Te, rfl, by decide, in_Te, (kmem (i := 141) (by decide +kernel) (by decide +kernel)), ok_Te, nm_Te, rfl⟩
theorem U_Cl_207 : kFe "KeyScreen$CommandLine" 207 2 0 := kFe.mk T_Cl_207 (fun _ => rfl) (fun h => absurd h (by decide)) (fun h => absurd h (by decide)) (fun h => absurd h (by decide))
def F_Cl : Nat → Option (Nat × Nat) := fun idx => ([(12, 7, 3), (18, 7, 4), (21, 7, 5), (25, 7, 0), (35, 7, 1), (36, 7, 2), (40, 7, 7), (43, 6, 0), (46, 6, 1), (56, 7, 8), (59, 7, 9), (70, 2, 2), (73, 2, 3), (76, 2, 4), (99, 7, 12), (105, 7, 11), (123, 7, 10), (146, 7, 13), (149, 7, 14), (155, 7, 16), (158, 7, 17), (161, 7, 15), (167, 1, 2), (181, 1, 1), (184, 1, 5), (196, 7, 6), (207, 2, 0)] : List (Nat × Nat × Nat)).lookup idx
theorem hF_Cl : kFok "KeyScreen$CommandLine" F_Cl := kFok_of (List.forall_mem_cons.mpr ⟨U_Cl_12, (List.forall_mem_cons.mpr ⟨U_Cl_18, (List.forall_mem_cons.mpr ⟨U_Cl_21, (List.forall_mem_cons.mpr ⟨U_Cl_25, (List.forall_mem_cons.mpr ⟨U_Cl_35, (List.forall_mem_cons.mpr ⟨U_Cl_36, (List.forall_mem_cons.mpr ⟨U_Cl_40, (List.forall_mem_cons.mpr ⟨U_Cl_43, (List.forall_mem_cons.mpr ⟨U_Cl_46, (List.forall_mem_cons.mpr ⟨U_Cl_56, (List.forall_mem_cons.mpr ⟨U_Cl_59, (List.forall_mem_cons.mpr ⟨U_Cl_70, (List.forall_mem_cons.mpr ⟨U_Cl_73, (List.forall_mem_cons.mpr ⟨U_Cl_76, (List.forall_mem_cons.mpr ⟨U_Cl_99, (List.forall_mem_cons.mpr ⟨U_Cl_105, (List.forall_mem_cons.mpr ⟨U_Cl_123, (List.forall_mem_cons.mpr ⟨U_Cl_146, (List.forall_mem_cons.mpr ⟨U_Cl_149, (List.forall_mem_cons.mpr ⟨U_Cl_155, (List.forall_mem_cons.mpr ⟨U_Cl_158, (List.forall_mem_cons.mpr ⟨U_Cl_161, (List.forall_mem_cons.mpr ⟨U_Cl_167, (List.forall_mem_cons.mpr ⟨U_Cl_181, (List.forall_mem_cons.mpr ⟨U_Cl_184, (List.forall_mem_cons.mpr ⟨U_Cl_196, (List.forall_mem_cons.mpr ⟨U_Cl_207, (fun _ h => absurd h List.not_mem_nil)⟩)⟩)⟩)⟩)⟩)⟩)⟩)⟩)⟩)⟩)⟩)⟩)⟩)⟩)⟩)⟩)⟩)⟩)⟩)⟩)⟩)⟩)⟩)⟩)⟩)⟩)⟩)
theorem w_Cl_50 : Cond.methodLink "KeyScreen$CommandLine" 50 Lib.Math.min.name ∈ kWS ∧ Cond.static Lib.Math.min.name ∈ kWS ∧ Cond.initialized "java/lang/Math" ∈ kWS ∧ Cond.code Lib.Math.min.name Lib.Math.min.code 2 (some .int) ∈ kWS := ⟨(kmem (i := 514) (by decide +kernel) (by decide +kernel)), (kmem (i := 461) (by decide +kernel) (by decide +kernel)), (kmem (i := 114) (by decide +kernel) (by decide +kernel)), (kmem (i := 462) (by decide +kernel) (by decide +kernel))⟩
theorem c_Cl_62 : kCV "KeyScreen$CommandLine" 62 y_Cl_begin m_Cl_begin 7 1 := ⟨⟨cd_Cl_begin, (kmem (i := 510) (by decide +kernel) (by decide +kernel)), (kmem (i := 512) (by decide +kernel) (by decide +kernel)), (kmem (i := 2) (by decide +kernel) (by decide +kernel)), (kmem (i := 111) (by decide +kernel) (by decide +kernel))⟩, by decide +kernel, ⟨_, _, rfl, fun _ => rfl⟩⟩
theorem c_Cl_66 : kCV "KeyScreen$CommandLine" 66 y_Pa_read m_Pa_read 8 3 := ⟨⟨cd_Pa_read, (kmem (i := 515) (by decide +kernel) (by decide +kernel)), (kmem (i := 516) (by decide +kernel) (by decide +kernel)), (kmem (i := 517) (by decide +kernel) (by decide +kernel)), (kmem (i := 112) (by decide +kernel) (by decide +kernel))⟩, by decide +kernel, ⟨_, _, rfl, fun _ => rfl⟩⟩
theorem c_Cl_79 : kCV "KeyScreen$CommandLine" 79 y_Te_sizeOf m_Te_sizeOf 2 1 := ⟨⟨cd_Te_sizeOf, (kmem (i := 531) (by decide +kernel) (by decide +kernel)), (kmem (i := 457) (by decide +kernel) (by decide +kernel)), (kmem (i := 458) (by decide +kernel) (by decide +kernel)), (kmem (i := 106) (by decide +kernel) (by decide +kernel))⟩, by decide +kernel, ⟨_, _, rfl, fun _ => rfl⟩⟩
theorem c_Cl_83 : kCV "KeyScreen$CommandLine" 83 y_Pa_endOfMatch m_Pa_endOfMatch 8 3 := ⟨⟨cd_Pa_endOfMatch, (kmem (i := 532) (by decide +kernel) (by decide +kernel)), (kmem (i := 533) (by decide +kernel) (by decide +kernel)), (kmem (i := 534) (by decide +kernel) (by decide +kernel)), (kmem (i := 112) (by decide +kernel) (by decide +kernel))⟩, by decide +kernel, ⟨_, _, rfl, fun _ => rfl⟩⟩
theorem c_Cl_87 : kCV "KeyScreen$CommandLine" 87 y_Te_stand m_Te_stand 2 2 := ⟨⟨cd_Te_stand, (kmem (i := 550) (by decide +kernel) (by decide +kernel)), (kmem (i := 551) (by decide +kernel) (by decide +kernel)), (kmem (i := 552) (by decide +kernel) (by decide +kernel)), (kmem (i := 106) (by decide +kernel) (by decide +kernel))⟩, by decide +kernel, ⟨_, _, rfl, fun _ => rfl⟩⟩
theorem c_Cl_91 : kCV "KeyScreen$CommandLine" 91 y_Cl_readRange m_Cl_readRange 7 0 := ⟨⟨cd_Cl_readRange, (kmem (i := 560) (by decide +kernel) (by decide +kernel)), (kmem (i := 562) (by decide +kernel) (by decide +kernel)), (kmem (i := 8) (by decide +kernel) (by decide +kernel)), (kmem (i := 111) (by decide +kernel) (by decide +kernel))⟩, by decide +kernel, ⟨_, _, rfl, fun _ => rfl⟩⟩
theorem c_Cl_95 : kCV "KeyScreen$CommandLine" 95 y_Cl_here m_Cl_here 7 0 := ⟨⟨cd_Cl_here, (kmem (i := 564) (by decide +kernel) (by decide +kernel)), (kmem (i := 566) (by decide +kernel) (by decide +kernel)), (kmem (i := 9) (by decide +kernel) (by decide +kernel)), (kmem (i := 111) (by decide +kernel) (by decide +kernel))⟩, by decide +kernel, ⟨_, _, rfl, fun _ => rfl⟩⟩
theorem c_Cl_102 : kCV "KeyScreen$CommandLine" 102 y_Cl_takeAllIfNoRange m_Cl_takeAllIfNoRange 7 0 := ⟨⟨cd_Cl_takeAllIfNoRange, (kmem (i := 568) (by decide +kernel) (by decide +kernel)), (kmem (i := 570) (by decide +kernel) (by decide +kernel)), (kmem (i := 10) (by decide +kernel) (by decide +kernel)), (kmem (i := 111) (by decide +kernel) (by decide +kernel))⟩, by decide +kernel, ⟨_, _, rfl, fun _ => rfl⟩⟩
theorem c_Cl_108 : kCV "KeyScreen$CommandLine" 108 y_Di_addJob m_Di_addJob 3 4 := ⟨⟨cd_Di_addJob, (kmem (i := 591) (by decide +kernel) (by decide +kernel)), (kmem (i := 592) (by decide +kernel) (by decide +kernel)), (kmem (i := 593) (by decide +kernel) (by decide +kernel)), (kmem (i := 107) (by decide +kernel) (by decide +kernel))⟩, by decide +kernel, ⟨_, _, rfl, fun _ => rfl⟩⟩
theorem c_Cl_114 : kCV "KeyScreen$CommandLine" 114 y_Cl_readPreserve m_Cl_readPreserve 7 0 := ⟨⟨cd_Cl_readPreserve, (kmem (i := 599) (by decide +kernel) (by decide +kernel)), (kmem (i := 601) (by decide +kernel) (by decide +kernel)), (kmem (i := 14) (by decide +kernel) (by decide +kernel)), (kmem (i := 111) (by decide +kernel) (by decide +kernel))⟩, by decide +kernel, ⟨_, _, rfl, fun _ => rfl⟩⟩
theorem c_Cl_117 : kCV "KeyScreen$CommandLine" 117 y_Cl_readChange m_Cl_readChange 7 0 := ⟨⟨cd_Cl_readChange, (kmem (i := 603) (by decide +kernel) (by decide +kernel)), (kmem (i := 605) (by decide +kernel) (by decide +kernel)), (kmem (i := 15) (by decide +kernel) (by decide +kernel)), (kmem (i := 111) (by decide +kernel) (by decide +kernel))⟩, by decide +kernel, ⟨_, _, rfl, fun _ => rfl⟩⟩
theorem c_Cl_120 : kCV "KeyScreen$CommandLine" 120 y_Cl_change m_Cl_change 7 0 := ⟨⟨cd_Cl_change, (kmem (i := 611) (by decide +kernel) (by decide +kernel)), (kmem (i := 613) (by decide +kernel) (by decide +kernel)), (kmem (i := 17) (by decide +kernel) (by decide +kernel)), (kmem (i := 111) (by decide +kernel) (by decide +kernel))⟩, by decide +kernel, ⟨_, _, rfl, fun _ => rfl⟩⟩
theorem c_Cl_127 : kCS "KeyScreen$CommandLine" 127 y_Cl_isDigit m_Cl_isDigit 1 := ⟨⟨cd_Cl_isDigit, (kmem (i := 572) (by decide +kernel) (by decide +kernel)), (kmem (i := 573) (by decide +kernel) (by decide +kernel)), (kmem (i := 111) (by decide +kernel) (by decide +kernel))⟩, by decide +kernel⟩
theorem c_Cl_131 : kCV "KeyScreen$CommandLine" 131 y_Cl_readAddress m_Cl_readAddress 7 0 := ⟨⟨cd_Cl_readAddress, (kmem (i := 575) (by decide +kernel) (by decide +kernel)), (kmem (i := 577) (by decide +kernel) (by decide +kernel)), (kmem (i := 11) (by decide +kernel) (by decide +kernel)), (kmem (i := 111) (by decide +kernel) (by decide +kernel))⟩, by decide +kernel, ⟨_, _, rfl, fun _ => rfl⟩⟩
theorem c_Cl_134 : kCV "KeyScreen$CommandLine" 134 y_Cl_readPattern m_Cl_readPattern 7 1 := ⟨⟨cd_Cl_readPattern, (kmem (i := 579) (by decide +kernel) (by decide +kernel)), (kmem (i := 581) (by decide +kernel) (by decide +kernel)), (kmem (i := 12) (by decide +kernel) (by decide +kernel)), (kmem (i := 111) (by decide +kernel) (by decide +kernel))⟩, by decide +kernel, ⟨_, _, rfl, fun _ => rfl⟩⟩
theorem c_Cl_138 : kCV "KeyScreen$CommandLine" 138 y_Cl_nextLineWith m_Cl_nextLineWith 7 1 := ⟨⟨cd_Cl_nextLineWith, (kmem (i := 583) (by decide +kernel) (by decide +kernel)), (kmem (i := 585) (by decide +kernel) (by decide +kernel)), (kmem (i := 13) (by decide +kernel) (by decide +kernel)), (kmem (i := 111) (by decide +kernel) (by decide +kernel))⟩, by decide +kernel, ⟨_, _, rfl, fun _ => rfl⟩⟩
theorem c_Cl_142 : kCV "KeyScreen$CommandLine" 142 y_Pa_isIn m_Pa_isIn 8 2 := ⟨⟨cd_Pa_isIn, (kmem (i := 587) (by decide +kernel) (by decide +kernel)), (kmem (i := 588) (by decide +kernel) (by decide +kernel)), (kmem (i := 589) (by decide +kernel) (by decide +kernel)), (kmem (i := 112) (by decide +kernel) (by decide +kernel))⟩, by decide +kernel, ⟨_, _, rfl, fun _ => rfl⟩⟩
theorem c_Cl_152 : kCV "KeyScreen$CommandLine" 152 y_Cl_readExchange m_Cl_readExchange 7 0 := ⟨⟨cd_Cl_readExchange, (kmem (i := 607) (by decide +kernel) (by decide +kernel)), (kmem (i := 609) (by decide +kernel) (by decide +kernel)), (kmem (i := 16) (by decide +kernel) (by decide +kernel)), (kmem (i := 111) (by decide +kernel) (by decide +kernel))⟩, by decide +kernel, ⟨_, _, rfl, fun _ => rfl⟩⟩
theorem c_Cl_164 : kCV "KeyScreen$CommandLine" 164 y_Cl_noteLines m_Cl_noteLines 7 0 := ⟨⟨cd_Cl_noteLines, (kmem (i := 615) (by decide +kernel) (by decide +kernel)), (kmem (i := 617) (by decide +kernel) (by decide +kernel)), (kmem (i := 18) (by decide +kernel) (by decide +kernel)), (kmem (i := 111) (by decide +kernel) (by decide +kernel))⟩, by decide +kernel, ⟨_, _, rfl, fun _ => rfl⟩⟩
theorem c_Cl_170 : kCV "KeyScreen$CommandLine" 170 y_Te_copy m_Te_copy 2 1 := ⟨⟨cd_Te_copy, (kmem (i := 619) (by decide +kernel) (by decide +kernel)), (kmem (i := 620) (by decide +kernel) (by decide +kernel)), (kmem (i := 621) (by decide +kernel) (by decide +kernel)), (kmem (i := 106) (by decide +kernel) (by decide +kernel))⟩, by decide +kernel, ⟨_, _, rfl, fun _ => rfl⟩⟩
theorem c_Cl_174 : kCV "KeyScreen$CommandLine" 174 y_Cl_deleteLines m_Cl_deleteLines 7 1 := ⟨⟨cd_Cl_deleteLines, (kmem (i := 623) (by decide +kernel) (by decide +kernel)), (kmem (i := 625) (by decide +kernel) (by decide +kernel)), (kmem (i := 19) (by decide +kernel) (by decide +kernel)), (kmem (i := 111) (by decide +kernel) (by decide +kernel))⟩, by decide +kernel, ⟨_, _, rfl, fun _ => rfl⟩⟩
theorem c_Cl_178 : kCV "KeyScreen$CommandLine" 178 y_Cl_exchangeLines m_Cl_exchangeLines 7 1 := ⟨⟨cd_Cl_exchangeLines, (kmem (i := 645) (by decide +kernel) (by decide +kernel)), (kmem (i := 647) (by decide +kernel) (by decide +kernel)), (kmem (i := 20) (by decide +kernel) (by decide +kernel)), (kmem (i := 111) (by decide +kernel) (by decide +kernel))⟩, by decide +kernel, ⟨_, _, rfl, fun _ => rfl⟩⟩
theorem c_Cl_187 : kCV "KeyScreen$CommandLine" 187 y_De_holdLines m_De_holdLines 1 2 := ⟨⟨cd_De_holdLines, (kmem (i := 627) (by decide +kernel) (by decide +kernel)), (kmem (i := 628) (by decide +kernel) (by decide +kernel)), (kmem (i := 629) (by decide +kernel) (by decide +kernel)), (kmem (i := 105) (by decide +kernel) (by decide +kernel))⟩, by decide +kernel, ⟨_, _, rfl, fun _ => rfl⟩⟩
theorem c_Cl_190 : kCV "KeyScreen$CommandLine" 190 y_De_dropLines m_De_dropLines 1 2 := ⟨⟨cd_De_dropLines, (kmem (i := 632) (by decide +kernel) (by decide +kernel)), (kmem (i := 633) (by decide +kernel) (by decide +kernel)), (kmem (i := 634) (by decide +kernel) (by decide +kernel)), (kmem (i := 105) (by decide +kernel) (by decide +kernel))⟩, by decide +kernel, ⟨_, _, rfl, fun _ => rfl⟩⟩
theorem c_Cl_193 : kCV "KeyScreen$CommandLine" 193 y_Cl_build m_Cl_build 7 1 := ⟨⟨cd_Cl_build, (kmem (i := 649) (by decide +kernel) (by decide +kernel)), (kmem (i := 651) (by decide +kernel) (by decide +kernel)), (kmem (i := 21) (by decide +kernel) (by decide +kernel)), (kmem (i := 111) (by decide +kernel) (by decide +kernel))⟩, by decide +kernel, ⟨_, _, rfl, fun _ => rfl⟩⟩
theorem c_Cl_199 : kCV "KeyScreen$CommandLine" 199 y_Te_closeLetters m_Te_closeLetters 2 3 := ⟨⟨cd_Te_closeLetters, (kmem (i := 662) (by decide +kernel) (by decide +kernel)), (kmem (i := 490) (by decide +kernel) (by decide +kernel)), (kmem (i := 491) (by decide +kernel) (by decide +kernel)), (kmem (i := 106) (by decide +kernel) (by decide +kernel))⟩, by decide +kernel, ⟨_, _, rfl, fun _ => rfl⟩⟩
theorem c_Cl_203 : kCV "KeyScreen$CommandLine" 203 y_Te_openLetters m_Te_openLetters 2 3 := ⟨⟨cd_Te_openLetters, (kmem (i := 663) (by decide +kernel) (by decide +kernel)), (kmem (i := 478) (by decide +kernel) (by decide +kernel)), (kmem (i := 479) (by decide +kernel) (by decide +kernel)), (kmem (i := 106) (by decide +kernel) (by decide +kernel))⟩, by decide +kernel, ⟨_, _, rfl, fun _ => rfl⟩⟩
theorem w_Cl_208 : Cond.methodLink "KeyScreen$CommandLine" 208 arraycopyName ∈ kWS ∧ Cond.native arraycopyName ∈ kWS ∧ Cond.static arraycopyName ∈ kWS ∧ Cond.initialized "java/lang/System" ∈ kWS := ⟨(kmem (i := 664) (by decide +kernel) (by decide +kernel)), (kmem (i := 470) (by decide +kernel) (by decide +kernel)), (kmem (i := 469) (by decide +kernel) (by decide +kernel)), (kmem (i := 116) (by decide +kernel) (by decide +kernel))⟩
theorem c_Cl_214 : kCV "KeyScreen$CommandLine" 214 y_Cl_append m_Cl_append 7 3 := ⟨⟨cd_Cl_append, (kmem (i := 653) (by decide +kernel) (by decide +kernel)), (kmem (i := 655) (by decide +kernel) (by decide +kernel)), (kmem (i := 22) (by decide +kernel) (by decide +kernel)), (kmem (i := 111) (by decide +kernel) (by decide +kernel))⟩, by decide +kernel, ⟨_, _, rfl, fun _ => rfl⟩⟩
theorem c_Cl_218 : kCV "KeyScreen$CommandLine" 218 y_Cl_appendNew m_Cl_appendNew 7 2 := ⟨⟨cd_Cl_appendNew, (kmem (i := 657) (by decide +kernel) (by decide +kernel)), (kmem (i := 659) (by decide +kernel) (by decide +kernel)), (kmem (i := 23) (by decide +kernel) (by decide +kernel)), (kmem (i := 111) (by decide +kernel) (by decide +kernel))⟩, by decide +kernel, ⟨_, _, rfl, fun _ => rfl⟩⟩
theorem w_Cl_221 : Cond.methodLink "KeyScreen$CommandLine" 221 Lib.Math.max.name ∈ kWS ∧ Cond.static Lib.Math.max.name ∈ kWS ∧ Cond.initialized "java/lang/Math" ∈ kWS ∧ Cond.code Lib.Math.max.name Lib.Math.max.code 2 (some .int) ∈ kWS := ⟨(kmem (i := 661) (by decide +kernel) (by decide +kernel)), (kmem (i := 365) (by decide +kernel) (by decide +kernel)), (kmem (i := 114) (by decide +kernel) (by decide +kernel)), (kmem (i := 366) (by decide +kernel) (by decide +kernel))⟩
theorem T_Kb_14 : kFL "KeyScreen$Keyboard" 14 5 3 13 (.object "KeyScreen$Keys") := ⟨_, T_Kb, t_Kb, rfl, by decide, in_Kb, (kmem (i := 381) (by decide +kernel) (by decide +kernel)), ok_Kb, nm_Kb, rfl⟩
theorem U_Kb_14 : kFe "KeyScreen$Keyboard" 14 5 3 := kFe.mk T_Kb_14 (fun _ => rfl) (fun h => absurd h (by decide)) (fun h => absurd h (by decide)) (fun h => absurd h (by decide))
theorem T_Kb_20 : kFL "KeyScreen$Keyboard" 20 5 4 13 (.object "KeyScreen$Keys") := ⟨_, T_Kb, t_Kb, rfl, by decide, in_Kb, (kmem (i := 382) (by decide +kernel) (by decide +kernel)), ok_Kb, nm_Kb, rfl⟩
theorem U_Kb_20 : kFe "KeyScreen$Keyboard" 20 5 4 := kFe.mk T_Kb_20 (fun _ => rfl) (fun h => absurd h (by decide)) (fun h => absurd h (by decide)) (fun h => absurd h (by decide))
theorem T_Kb_23 : kFL "KeyScreen$Keyboard" 23 5 5 13 (.object "KeyScreen$Keys") := ⟨_, T_Kb, t_Kb, rfl, by decide, in_Kb, (kmem (i := 383) (by decide +kernel) (by decide +kernel)), ok_Kb, nm_Kb, rfl⟩
theorem U_Kb_23 : kFe "KeyScreen$Keyboard" 23 5 5 := kFe.mk T_Kb_23 (fun _ => rfl) (fun h => absurd h (by decide)) (fun h => absurd h (by decide)) (fun h => absurd h (by decide))
theorem T_Kb_26 : kFL "KeyScreen$Keyboard" 26 5 0 13 (.object "KeyScreen$Desk") := ⟨_, T_Kb, t_Kb, rfl, by decide, in_Kb, (kmem (i := 378) (by decide +kernel) (by decide +kernel)), ok_Kb, nm_Kb, rfl⟩
theorem U_Kb_26 : kFe "KeyScreen$Keyboard" 26 5 0 := kFe.mk T_Kb_26 (fun _ => rfl) (fun h => absurd h (by decide)) (fun h => absurd h (by decide)) (fun h => absurd h (by decide))
theorem T_Kb_36 : kFL "KeyScreen$Keyboard" 36 5 1 13 (.object "KeyScreen$Text") := ⟨_, T_Kb, t_Kb, rfl, by decide, in_Kb, (kmem (i := 379) (by decide +kernel) (by decide +kernel)), ok_Kb, nm_Kb, rfl⟩
theorem U_Kb_36 : kFe "KeyScreen$Keyboard" 36 5 1 := kFe.mk T_Kb_36 (fun _ => rfl) (fun h => absurd h (by decide)) (fun h => absurd h (by decide)) (fun h => absurd h (by decide))
theorem T_Kb_37 : kFL "KeyScreen$Keyboard" 37 5 2 13 (.object "KeyScreen$CommandLine") := ⟨_, T_Kb, t_Kb, rfl, by decide, in_Kb, (kmem (i := 380) (by decide +kernel) (by decide +kernel)), ok_Kb, nm_Kb, rfl⟩
theorem U_Kb_37 : kFe "KeyScreen$Keyboard" 37 5 2 := kFe.mk T_Kb_37 (fun _ => rfl) (fun h => absurd h (by decide)) (fun h => absurd h (by decide)) (fun h => absurd h (by decide))
theorem T_Kb_41 : kFL "KeyScreen$Keyboard" 41 5 6 13 (.int) := ⟨_, T_Kb, t_Kb, rfl, by decide, in_Kb, (kmem (i := 384) (by decide +kernel) (by decide +kernel)), ok_Kb, nm_Kb, rfl⟩
theorem U_Kb_41 : kFe "KeyScreen$Keyboard" 41 5 6 := kFe.mk T_Kb_41 (fun _ => rfl) (fun _ => ⟨rfl, ⟨_, _, _, rfl, rfl⟩⟩) (fun h => absurd h (by decide)) (fun h => absurd h (by decide))
theorem T_Kb_48 : kFL "KeyScreen$Keyboard" 48 6 1 2 (.int) := ⟨_, T_Ke, t_Ke, rfl, by decide, in_Ke, (kmem (i := 372) (by decide +kernel) (by decide +kernel)), ok_Ke, nm_Ke, rfl⟩
theorem U_Kb_48 : kFe "KeyScreen$Keyboard" 48 6 1 := kFe.mk T_Kb_48 (fun _ => rfl) (fun _ => ⟨rfl, ⟨_, _, _, rfl, rfl⟩⟩) (fun h => absurd h (by decide)) (fun h => absurd h (by decide))
theorem T_Kb_51 : kFL "KeyScreen$Keyboard" 51 5 7 13 (.int) := ⟨_, T_Kb, t_Kb, rfl, by decide, in_Kb, (kmem (i := 386) (by decide +kernel) (by decide +kernel)), ok_Kb, nm_Kb, rfl⟩
theorem U_Kb_51 : kFe "KeyScreen$Keyboard" 51 5 7 := kFe.mk T_Kb_51 (fun _ => rfl) (fun _ => ⟨rfl, ⟨_, _, _, rfl, rfl⟩⟩) (fun h => absurd h (by decide)) (fun h => absurd h (by decide))
theorem T_Kb_52 : kFL "KeyScreen$Keyboard" 52 5 8 13 (.int) := ⟨_, T_Kb, t_Kb, rfl, by decide, in_Kb, (kmem (i := 387) (by decide +kernel) (by decide +kernel)), ok_Kb, nm_Kb, rfl⟩
theorem U_Kb_52 : kFe "KeyScreen$Keyboard" 52 5 8 := kFe.mk T_Kb_52 (fun _ => rfl) (fun _ => ⟨rfl, ⟨_, _, _, rfl, rfl⟩⟩) (fun h => absurd h (by decide)) (fun h => absurd h (by decide))
theorem T_Kb_55 : kFL "KeyScreen$Keyboard" 55 5 9 13 (.int) := ⟨_, T_Kb, t_Kb, rfl, by decide, in_Kb, (kmem (i := 388) (by decide +kernel) (by decide +kernel)), ok_Kb, nm_Kb, rfl⟩
theorem U_Kb_55 : kFe "KeyScreen$Keyboard" 55 5 9 := kFe.mk T_Kb_55 (fun _ => rfl) (fun _ => ⟨rfl, ⟨_, _, _, rfl, rfl⟩⟩) (fun h => absurd h (by decide)) (fun h => absurd h (by decide))
theorem T_Kb_62 : kFL "KeyScreen$Keyboard" 62 5 12 13 (.boolean) := ⟨_, T_Kb, t_Kb, rfl, by decide, in_Kb, (kmem (i := 391) (by decide +kernel) (by decide +kernel)), ok_Kb, nm_Kb, rfl⟩
theorem U_Kb_62 : kFe "KeyScreen$Keyboard" 62 5 12 := kFe.mk T_Kb_62 (fun _ => rfl) (fun h => absurd h (by decide)) (fun _ => ⟨rfl, ⟨_, _, _, rfl, rfl⟩⟩) (fun h => absurd h (by decide))
theorem T_Kb_66 : kFL "KeyScreen$Keyboard" 66 6 0 2 (.array .int) := ⟨_, T_Ke, t_Ke, rfl, by decide, in_Ke, (kmem (i := 369) (by decide +kernel) (by decide +kernel)), ok_Ke, nm_Ke, rfl⟩
theorem U_Kb_66 : kFe "KeyScreen$Keyboard" 66 6 0 := kFe.mk T_Kb_66 (fun _ => rfl) (fun h => absurd h (by decide)) (fun h => absurd h (by decide)) (fun h => absurd h (by decide))
theorem T_Kb_111 : kFL "KeyScreen$Keyboard" 111 2 3 5 (.int) := ⟨_, T_Te, t_Te, rfl, by decide, in_Te, (kmem (i := 157) (by decide +kernel) (by decide +kernel)), ok_Te, nm_Te, rfl⟩
theorem U_Kb_111 : kFe "KeyScreen$Keyboard" 111 2 3 := kFe.mk T_Kb_111 (fun _ => rfl) (fun _ => ⟨rfl, ⟨_, _, _, rfl, rfl⟩⟩) (fun h => absurd h (by decide)) (fun h => absurd h (by decide))
theorem T_Kb_114 : kFL "KeyScreen$Keyboard" 114 2 4 5 (.int) := ⟨_, T_Te, t_Te, rfl, by decide, in_Te, (kmem (i := 162) (by decide +kernel) (by decide +kernel)), ok_Te, nm_Te, rfl⟩
theorem U_Kb_114 : kFe "KeyScreen$Keyboard" 114 2 4 := kFe.mk T_Kb_114 (fun _ => rfl) (fun _ => ⟨rfl, ⟨_, _, _, rfl, rfl⟩⟩) (fun h => absurd h (by decide)) (fun h => absurd h (by decide))
theorem T_Kb_130 : kFL "KeyScreen$Keyboard" 130 2 2 5 (.int) := ⟨_, T_Te, t_Te, rfl, by decide, in_Te, (kmem (i := 151) (by decide +kernel) (by decide +kernel)), ok_Te, nm_Te, rfl⟩
theorem U_Kb_130 : kFe "KeyScreen$Keyboard" 130 2 2 := kFe.mk T_Kb_130 (fun _ => rfl) (fun _ => ⟨rfl, ⟨_, _, _, rfl, rfl⟩⟩) (fun h => absurd h (by decide)) (fun h => absurd h (by decide))
theorem T_Kb_168 : kFL "KeyScreen$Keyboard" 168 5 11 13 (.boolean) := ⟨_, T_Kb, t_Kb, rfl, by decide, in_Kb, (kmem (i := 390) (by decide +kernel) (by decide +kernel)), ok_Kb, nm_Kb, rfl⟩
theorem U_Kb_168 : kFe "KeyScreen$Keyboard" 168 5 11 := kFe.mk T_Kb_168 (fun _ => rfl) (fun h => absurd h (by decide)) (fun _ => ⟨rfl, ⟨_, _, _, rfl, rfl⟩⟩) (fun h => absurd h (by decide))
theorem T_Kb_174 : kFL "KeyScreen$Keyboard" 174 1 4 6 (.int) := ⟨_, T_De, t_De, rfl, by decide, in_De, (kmem (i := 189) (by decide +kernel) (by decide +kernel)), ok_De, nm_De, rfl⟩
theorem U_Kb_174 : kFe "KeyScreen$Keyboard" 174 1 4 := kFe.mk T_Kb_174 (fun _ => rfl) (fun _ => ⟨rfl, ⟨_, _, _, rfl, rfl⟩⟩) (fun h => absurd h (by decide)) (fun h => absurd h (by decide))
theorem T_Kb_190 : kFL "KeyScreen$Keyboard" 190 1 1 6 (.object "KeyScreen$Text") := ⟨_, T_De, t_De, rfl, by decide, in_De, (kmem (i := 182) (by decide +kernel) (by decide +kernel)), ok_De, nm_De, rfl⟩
theorem U_Kb_190 : kFe "KeyScreen$Keyboard" 190 1 1 := kFe.mk T_Kb_190 (fun _ => rfl) (fun h => absurd h (by decide)) (fun h => absurd h (by decide)) (fun h => absurd h (by decide))
theorem T_Kb_197 : kFL "KeyScreen$Keyboard" 197 1 5 6 (.boolean) := ⟨_, T_De, t_De, rfl, by decide, in_De, (kmem (i := 192) (by decide +kernel) (by decide +kernel)), ok_De, nm_De, rfl⟩
theorem U_Kb_197 : kFe "KeyScreen$Keyboard" 197 1 5 := kFe.mk T_Kb_197 (fun _ => rfl) (fun h => absurd h (by decide)) (fun _ => ⟨rfl, ⟨_, _, _, rfl, rfl⟩⟩) (fun h => absurd h (by decide))
theorem T_Kb_203 : kFL "KeyScreen$Keyboard" 203 5 10 13 (.int) := ⟨_, T_Kb, t_Kb, rfl, by decide, in_Kb, (kmem (i := 389) (by decide +kernel) (by decide +kernel)), ok_Kb, nm_Kb, rfl⟩
theorem U_Kb_203 : kFe "KeyScreen$Keyboard" 203 5 10 := kFe.mk T_Kb_203 (fun _ => rfl) (fun _ => ⟨rfl, ⟨_, _, _, rfl, rfl⟩⟩) (fun h => absurd h (by decide)) (fun h => absurd h (by decide))
def F_Kb : Nat → Option (Nat × Nat) := fun idx => ([(14, 5, 3), (20, 5, 4), (23, 5, 5), (26, 5, 0), (36, 5, 1), (37, 5, 2), (41, 5, 6), (48, 6, 1), (51, 5, 7), (52, 5, 8), (55, 5, 9), (62, 5, 12), (66, 6, 0), (111, 2, 3), (114, 2, 4), (130, 2, 2), (168, 5, 11), (174, 1, 4), (190, 1, 1), (197, 1, 5), (203, 5, 10)] : List (Nat × Nat × Nat)).lookup idx
theorem hF_Kb : kFok "KeyScreen$Keyboard" F_Kb := kFok_of (List.forall_mem_cons.mpr ⟨U_Kb_14, (List.forall_mem_cons.mpr ⟨U_Kb_20, (List.forall_mem_cons.mpr ⟨U_Kb_23, (List.forall_mem_cons.mpr ⟨U_Kb_26, (List.forall_mem_cons.mpr ⟨U_Kb_36, (List.forall_mem_cons.mpr ⟨U_Kb_37, (List.forall_mem_cons.mpr ⟨U_Kb_41, (List.forall_mem_cons.mpr ⟨U_Kb_48, (List.forall_mem_cons.mpr ⟨U_Kb_51, (List.forall_mem_cons.mpr ⟨U_Kb_52, (List.forall_mem_cons.mpr ⟨U_Kb_55, (List.forall_mem_cons.mpr ⟨U_Kb_62, (List.forall_mem_cons.mpr ⟨U_Kb_66, (List.forall_mem_cons.mpr ⟨U_Kb_111, (List.forall_mem_cons.mpr ⟨U_Kb_114, (List.forall_mem_cons.mpr ⟨U_Kb_130, (List.forall_mem_cons.mpr ⟨U_Kb_168, (List.forall_mem_cons.mpr ⟨U_Kb_174, (List.forall_mem_cons.mpr ⟨U_Kb_190, (List.forall_mem_cons.mpr ⟨U_Kb_197, (List.forall_mem_cons.mpr ⟨U_Kb_203, (fun _ h => absurd h List.not_mem_nil)⟩)⟩)⟩)⟩)⟩)⟩)⟩)⟩)⟩)⟩)⟩)⟩)⟩)⟩)⟩)⟩)⟩)⟩)⟩)⟩)⟩)
theorem c_Kb_45 : kCV "KeyScreen$Keyboard" 45 y_Kb_dropCommand m_Kb_dropCommand 5 0 := ⟨⟨cd_Kb_dropCommand, (kmem (i := 789) (by decide +kernel) (by decide +kernel)), (kmem (i := 791) (by decide +kernel) (by decide +kernel)), (kmem (i := 34) (by decide +kernel) (by decide +kernel)), (kmem (i := 110) (by decide +kernel) (by decide +kernel))⟩, by decide +kernel, ⟨_, _, rfl, fun _ => rfl⟩⟩
theorem c_Kb_58 : kCV "KeyScreen$Keyboard" 58 y_Ke_isTooLong m_Ke_isTooLong 6 0 := ⟨⟨cd_Ke_isTooLong, (kmem (i := 673) (by decide +kernel) (by decide +kernel)), (kmem (i := 674) (by decide +kernel) (by decide +kernel)), (kmem (i := 675) (by decide +kernel) (by decide +kernel)), (kmem (i := 113) (by decide +kernel) (by decide +kernel))⟩, by decide +kernel, ⟨_, _, rfl, fun _ => rfl⟩⟩
theorem c_Kb_70 : kCV "KeyScreen$Keyboard" 70 y_Kb_command m_Kb_command 5 1 := ⟨⟨cd_Kb_command, (kmem (i := 677) (by decide +kernel) (by decide +kernel)), (kmem (i := 678) (by decide +kernel) (by decide +kernel)), (kmem (i := 679) (by decide +kernel) (by decide +kernel)), (kmem (i := 110) (by decide +kernel) (by decide +kernel))⟩, by decide +kernel, ⟨_, _, rfl, fun _ => rfl⟩⟩
theorem c_Kb_74 : kCV "KeyScreen$Keyboard" 74 y_Kb_insert m_Kb_insert 5 1 := ⟨⟨cd_Kb_insert, (kmem (i := 793) (by decide +kernel) (by decide +kernel)), (kmem (i := 440) (by decide +kernel) (by decide +kernel)), (kmem (i := 441) (by decide +kernel) (by decide +kernel)), (kmem (i := 110) (by decide +kernel) (by decide +kernel))⟩, by decide +kernel, ⟨_, _, rfl, fun _ => rfl⟩⟩
theorem c_Kb_77 : kCV "KeyScreen$Keyboard" 77 y_Ke_add m_Ke_add 6 1 := ⟨⟨cd_Ke_add, (kmem (i := 493) (by decide +kernel) (by decide +kernel)), (kmem (i := 494) (by decide +kernel) (by decide +kernel)), (kmem (i := 495) (by decide +kernel) (by decide +kernel)), (kmem (i := 113) (by decide +kernel) (by decide +kernel))⟩, by decide +kernel, ⟨_, _, rfl, fun _ => rfl⟩⟩
theorem c_Kb_80 : kCV "KeyScreen$Keyboard" 80 y_Kb_isCountKey m_Kb_isCountKey 5 1 := ⟨⟨cd_Kb_isCountKey, (kmem (i := 681) (by decide +kernel) (by decide +kernel)), (kmem (i := 683) (by decide +kernel) (by decide +kernel)), (kmem (i := 24) (by decide +kernel) (by decide +kernel)), (kmem (i := 110) (by decide +kernel) (by decide +kernel))⟩, by decide +kernel, ⟨_, _, rfl, fun _ => rfl⟩⟩
theorem c_Kb_83 : kCS "KeyScreen$Keyboard" 83 y_Kb_isOperator m_Kb_isOperator 1 := ⟨⟨cd_Kb_isOperator, (kmem (i := 685) (by decide +kernel) (by decide +kernel)), (kmem (i := 686) (by decide +kernel) (by decide +kernel)), (kmem (i := 110) (by decide +kernel) (by decide +kernel))⟩, by decide +kernel⟩
theorem c_Kb_86 : kCS "KeyScreen$Keyboard" 86 y_Mo_lead m_Mo_lead 3 := ⟨⟨cd_Mo_lead, (kmem (i := 688) (by decide +kernel) (by decide +kernel)), (kmem (i := 689) (by decide +kernel) (by decide +kernel)), (kmem (i := 117) (by decide +kernel) (by decide +kernel))⟩, by decide +kernel⟩
theorem c_Kb_92 : kCV "KeyScreen$Keyboard" 92 y_Kb_operate m_Kb_operate 5 2 := ⟨⟨cd_Kb_operate, (kmem (i := 710) (by decide +kernel) (by decide +kernel)), (kmem (i := 712) (by decide +kernel) (by decide +kernel)), (kmem (i := 25) (by decide +kernel) (by decide +kernel)), (kmem (i := 110) (by decide +kernel) (by decide +kernel))⟩, by decide +kernel, ⟨_, _, rfl, fun _ => rfl⟩⟩
theorem c_Kb_96 : kCV "KeyScreen$Keyboard" 96 y_Te_stand m_Te_stand 2 2 := ⟨⟨cd_Te_stand, (kmem (i := 752) (by decide +kernel) (by decide +kernel)), (kmem (i := 551) (by decide +kernel) (by decide +kernel)), (kmem (i := 552) (by decide +kernel) (by decide +kernel)), (kmem (i := 106) (by decide +kernel) (by decide +kernel))⟩, by decide +kernel, ⟨_, _, rfl, fun _ => rfl⟩⟩
theorem c_Kb_102 : kCV "KeyScreen$Keyboard" 102 y_Kb_plain m_Kb_plain 5 1 := ⟨⟨cd_Kb_plain, (kmem (i := 753) (by decide +kernel) (by decide +kernel)), (kmem (i := 755) (by decide +kernel) (by decide +kernel)), (kmem (i := 30) (by decide +kernel) (by decide +kernel)), (kmem (i := 110) (by decide +kernel) (by decide +kernel))⟩, by decide +kernel, ⟨_, _, rfl, fun _ => rfl⟩⟩
theorem w_Kb_105 : Cond.methodLink "KeyScreen$Keyboard" 105 Lib.Math.max.name ∈ kWS ∧ Cond.static Lib.Math.max.name ∈ kWS ∧ Cond.initialized "java/lang/Math" ∈ kWS ∧ Cond.code Lib.Math.max.name Lib.Math.max.code 2 (some .int) ∈ kWS := ⟨(kmem (i := 447) (by decide +kernel) (by decide +kernel)), (kmem (i := 365) (by decide +kernel) (by decide +kernel)), (kmem (i := 114) (by decide +kernel) (by decide +kernel)), (kmem (i := 366) (by decide +kernel) (by decide +kernel))⟩
theorem c_Kb_117 : kCV "KeyScreen$Keyboard" 117 y_Te_sizeOf m_Te_sizeOf 2 1 := ⟨⟨cd_Te_sizeOf, (kmem (i := 463) (by decide +kernel) (by decide +kernel)), (kmem (i := 457) (by decide +kernel) (by decide +kernel)), (kmem (i := 458) (by decide +kernel) (by decide +kernel)), (kmem (i := 106) (by decide +kernel) (by decide +kernel))⟩, by decide +kernel, ⟨_, _, rfl, fun _ => rfl⟩⟩
theorem w_Kb_121 : Cond.methodLink "KeyScreen$Keyboard" 121 Lib.Math.min.name ∈ kWS ∧ Cond.static Lib.Math.min.name ∈ kWS ∧ Cond.initialized "java/lang/Math" ∈ kWS ∧ Cond.code Lib.Math.min.name Lib.Math.min.code 2 (some .int) ∈ kWS := ⟨(kmem (i := 460) (by decide +kernel) (by decide +kernel)), (kmem (i := 461) (by decide +kernel) (by decide +kernel)), (kmem (i := 114) (by decide +kernel) (by decide +kernel)), (kmem (i := 462) (by decide +kernel) (by decide +kernel))⟩
theorem c_Kb_124 : kCV "KeyScreen$Keyboard" 124 y_Kb_operateOnLines m_Kb_operateOnLines 5 2 := ⟨⟨cd_Kb_operateOnLines, (kmem (i := 714) (by decide +kernel) (by decide +kernel)), (kmem (i := 716) (by decide +kernel) (by decide +kernel)), (kmem (i := 26) (by decide +kernel) (by decide +kernel)), (kmem (i := 110) (by decide +kernel) (by decide +kernel))⟩, by decide +kernel, ⟨_, _, rfl, fun _ => rfl⟩⟩
theorem c_Kb_127 : kCV "KeyScreen$Keyboard" 127 y_Kb_operateOnLetters m_Kb_operateOnLetters 5 2 := ⟨⟨cd_Kb_operateOnLetters, (kmem (i := 740) (by decide +kernel) (by decide +kernel)), (kmem (i := 742) (by decide +kernel) (by decide +kernel)), (kmem (i := 29) (by decide +kernel) (by decide +kernel)), (kmem (i := 110) (by decide +kernel) (by decide +kernel))⟩, by decide +kernel, ⟨_, _, rfl, fun _ => rfl⟩⟩
theorem c_Kb_131 : kCV "KeyScreen$Keyboard" 131 y_De_holdLines m_De_holdLines 1 2 := ⟨⟨cd_De_holdLines, (kmem (i := 718) (by decide +kernel) (by decide +kernel)), (kmem (i := 628) (by decide +kernel) (by decide +kernel)), (kmem (i := 629) (by decide +kernel) (by decide +kernel)), (kmem (i := 105) (by decide +kernel) (by decide +kernel))⟩, by decide +kernel, ⟨_, _, rfl, fun _ => rfl⟩⟩
theorem c_Kb_134 : kCV "KeyScreen$Keyboard" 134 y_Kb_beginChange m_Kb_beginChange 5 0 := ⟨⟨cd_Kb_beginChange, (kmem (i := 719) (by decide +kernel) (by decide +kernel)), (kmem (i := 721) (by decide +kernel) (by decide +kernel)), (kmem (i := 27) (by decide +kernel) (by decide +kernel)), (kmem (i := 110) (by decide +kernel) (by decide +kernel))⟩, by decide +kernel, ⟨_, _, rfl, fun _ => rfl⟩⟩
theorem c_Kb_137 : kCV "KeyScreen$Keyboard" 137 y_De_dropLines m_De_dropLines 1 2 := ⟨⟨cd_De_dropLines, (kmem (i := 729) (by decide +kernel) (by decide +kernel)), (kmem (i := 633) (by decide +kernel) (by decide +kernel)), (kmem (i := 634) (by decide +kernel) (by decide +kernel)), (kmem (i := 105) (by decide +kernel) (by decide +kernel))⟩, by decide +kernel, ⟨_, _, rfl, fun _ => rfl⟩⟩
theorem c_Kb_140 : kCV "KeyScreen$Keyboard" 140 y_De_emptyLines m_De_emptyLines 1 2 := ⟨⟨cd_De_emptyLines, (kmem (i := 730) (by decide +kernel) (by decide +kernel)), (kmem (i := 731) (by decide +kernel) (by decide +kernel)), (kmem (i := 732) (by decide +kernel) (by decide +kernel)), (kmem (i := 105) (by decide +kernel) (by decide +kernel))⟩, by decide +kernel, ⟨_, _, rfl, fun _ => rfl⟩⟩
theorem c_Kb_143 : kCV "KeyScreen$Keyboard" 143 y_Kb_beginInsert m_Kb_beginInsert 5 2 := ⟨⟨cd_Kb_beginInsert, (kmem (i := 736) (by decide +kernel) (by decide +kernel)), (kmem (i := 738) (by decide +kernel) (by decide +kernel)), (kmem (i := 28) (by decide +kernel) (by decide +kernel)), (kmem (i := 110) (by decide +kernel) (by decide +kernel))⟩, by decide +kernel, ⟨_, _, rfl, fun _ => rfl⟩⟩
theorem c_Kb_146 : kCV "KeyScreen$Keyboard" 146 y_De_holdLetters m_De_holdLetters 1 2 := ⟨⟨cd_De_holdLetters, (kmem (i := 744) (by decide +kernel) (by decide +kernel)), (kmem (i := 745) (by decide +kernel) (by decide +kernel)), (kmem (i := 746) (by decide +kernel) (by decide +kernel)), (kmem (i := 105) (by decide +kernel) (by decide +kernel))⟩, by decide +kernel, ⟨_, _, rfl, fun _ => rfl⟩⟩
theorem c_Kb_149 : kCV "KeyScreen$Keyboard" 149 y_Te_closeLetters m_Te_closeLetters 2 3 := ⟨⟨cd_Te_closeLetters, (kmem (i := 489) (by decide +kernel) (by decide +kernel)), (kmem (i := 490) (by decide +kernel) (by decide +kernel)), (kmem (i := 491) (by decide +kernel) (by decide +kernel)), (kmem (i := 106) (by decide +kernel) (by decide +kernel))⟩, by decide +kernel, ⟨_, _, rfl, fun _ => rfl⟩⟩
theorem c_Kb_153 : kCV "KeyScreen$Keyboard" 153 y_Kb_put m_Kb_put 5 2 := ⟨⟨cd_Kb_put, (kmem (i := 757) (by decide +kernel) (by decide +kernel)), (kmem (i := 759) (by decide +kernel) (by decide +kernel)), (kmem (i := 31) (by decide +kernel) (by decide +kernel)), (kmem (i := 110) (by decide +kernel) (by decide +kernel))⟩, by decide +kernel, ⟨_, _, rfl, fun _ => rfl⟩⟩
theorem c_Kb_156 : kCV "KeyScreen$Keyboard" 156 y_Kb_insertFrom m_Kb_insertFrom 5 1 := ⟨⟨cd_Kb_insertFrom, (kmem (i := 776) (by decide +kernel) (by decide +kernel)), (kmem (i := 778) (by decide +kernel) (by decide +kernel)), (kmem (i := 32) (by decide +kernel) (by decide +kernel)), (kmem (i := 110) (by decide +kernel) (by decide +kernel))⟩, by decide +kernel, ⟨_, _, rfl, fun _ => rfl⟩⟩
theorem c_Kb_159 : kCV "KeyScreen$Keyboard" 159 y_Te_indentOf m_Te_indentOf 2 1 := ⟨⟨cd_Te_indentOf, (kmem (i := 452) (by decide +kernel) (by decide +kernel)), (kmem (i := 453) (by decide +kernel) (by decide +kernel)), (kmem (i := 454) (by decide +kernel) (by decide +kernel)), (kmem (i := 106) (by decide +kernel) (by decide +kernel))⟩, by decide +kernel, ⟨_, _, rfl, fun _ => rfl⟩⟩
theorem c_Kb_162 : kCV "KeyScreen$Keyboard" 162 y_Kb_openLine m_Kb_openLine 5 1 := ⟨⟨cd_Kb_openLine, (kmem (i := 780) (by decide +kernel) (by decide +kernel)), (kmem (i := 782) (by decide +kernel) (by decide +kernel)), (kmem (i := 33) (by decide +kernel) (by decide +kernel)), (kmem (i := 110) (by decide +kernel) (by decide +kernel))⟩, by decide +kernel, ⟨_, _, rfl, fun _ => rfl⟩⟩
theorem c_Kb_165 : kCV "KeyScreen$Keyboard" 165 y_De_exchange m_De_exchange 1 0 := ⟨⟨cd_De_exchange, (kmem (i := 784) (by decide +kernel) (by decide +kernel)), (kmem (i := 785) (by decide +kernel) (by decide +kernel)), (kmem (i := 786) (by decide +kernel) (by decide +kernel)), (kmem (i := 105) (by decide +kernel) (by decide +kernel))⟩, by decide +kernel, ⟨_, _, rfl, fun _ => rfl⟩⟩
theorem c_Kb_171 : kCV "KeyScreen$Keyboard" 171 y_De_canPut m_De_canPut 1 0 := ⟨⟨cd_De_canPut, (kmem (i := 761) (by decide +kernel) (by decide +kernel)), (kmem (i := 762) (by decide +kernel) (by decide +kernel)), (kmem (i := 763) (by decide +kernel) (by decide +kernel)), (kmem (i := 105) (by decide +kernel) (by decide +kernel))⟩, by decide +kernel, ⟨_, _, rfl, fun _ => rfl⟩⟩
theorem c_Kb_177 : kCV "KeyScreen$Keyboard" 177 y_De_putLines m_De_putLines 1 1 := ⟨⟨cd_De_putLines, (kmem (i := 765) (by decide +kernel) (by decide +kernel)), (kmem (i := 766) (by decide +kernel) (by decide +kernel)), (kmem (i := 767) (by decide +kernel) (by decide +kernel)), (kmem (i := 105) (by decide +kernel) (by decide +kernel))⟩, by decide +kernel, ⟨_, _, rfl, fun _ => rfl⟩⟩
theorem c_Kb_180 : kCV "KeyScreen$Keyboard" 180 y_De_putLetters m_De_putLetters 1 1 := ⟨⟨cd_De_putLetters, (kmem (i := 771) (by decide +kernel) (by decide +kernel)), (kmem (i := 772) (by decide +kernel) (by decide +kernel)), (kmem (i := 773) (by decide +kernel) (by decide +kernel)), (kmem (i := 105) (by decide +kernel) (by decide +kernel))⟩, by decide +kernel, ⟨_, _, rfl, fun _ => rfl⟩⟩
theorem c_Kb_183 : kCV "KeyScreen$Keyboard" 183 y_Te_openLines m_Te_openLines 2 2 := ⟨⟨cd_Te_openLines, (kmem (i := 464) (by decide +kernel) (by decide +kernel)), (kmem (i := 465) (by decide +kernel) (by decide +kernel)), (kmem (i := 466) (by decide +kernel) (by decide +kernel)), (kmem (i := 106) (by decide +kernel) (by decide +kernel))⟩, by decide +kernel, ⟨_, _, rfl, fun _ => rfl⟩⟩
theorem c_Kb_186 : kCV "KeyScreen$Keyboard" 186 y_Te_openLetters m_Te_openLetters 2 3 := ⟨⟨cd_Te_openLetters, (kmem (i := 477) (by decide +kernel) (by decide +kernel)), (kmem (i := 478) (by decide +kernel) (by decide +kernel)), (kmem (i := 479) (by decide +kernel) (by decide +kernel)), (kmem (i := 106) (by decide +kernel) (by decide +kernel))⟩, by decide +kernel, ⟨_, _, rfl, fun _ => rfl⟩⟩
theorem c_Kb_193 : kCV "KeyScreen$Keyboard" 193 y_Te_copy m_Te_copy 2 1 := ⟨⟨cd_Te_copy, (kmem (i := 723) (by decide +kernel) (by decide +kernel)), (kmem (i := 620) (by decide +kernel) (by decide +kernel)), (kmem (i := 621) (by decide +kernel) (by decide +kernel)), (kmem (i := 106) (by decide +kernel) (by decide +kernel))⟩, by decide +kernel, ⟨_, _, rfl, fun _ => rfl⟩⟩
theorem c_Kb_200 : kCV "KeyScreen$Keyboard" 200 y_Ke_copy m_Ke_copy 6 1 := ⟨⟨cd_Ke_copy, (kmem (i := 724) (by decide +kernel) (by decide +kernel)), (kmem (i := 725) (by decide +kernel) (by decide +kernel)), (kmem (i := 726) (by decide +kernel) (by decide +kernel)), (kmem (i := 113) (by decide +kernel) (by decide +kernel))⟩, by decide +kernel, ⟨_, _, rfl, fun _ => rfl⟩⟩
theorem c_Kb_206 : kCV "KeyScreen$Keyboard" 206 y_Kb_edit m_Kb_edit 5 1 := ⟨⟨cd_Kb_edit, (kmem (i := 443) (by decide +kernel) (by decide +kernel)), (kmem (i := 445) (by decide +kernel) (by decide +kernel)), (kmem (i := 0) (by decide +kernel) (by decide +kernel)), (kmem (i := 110) (by decide +kernel) (by decide +kernel))⟩, by decide +kernel, ⟨_, _, rfl, fun _ => rfl⟩⟩
theorem c_Kb_209 : kCV "KeyScreen$Keyboard" 209 y_Kb_partLine m_Kb_partLine 5 0 := ⟨⟨cd_Kb_partLine, (kmem (i := 448) (by decide +kernel) (by decide +kernel)), (kmem (i := 450) (by decide +kernel) (by decide +kernel)), (kmem (i := 1) (by decide +kernel) (by decide +kernel)), (kmem (i := 110) (by decide +kernel) (by decide +kernel))⟩, by decide +kernel, ⟨_, _, rfl, fun _ => rfl⟩⟩
theorem c_Kb_212 : kCV "KeyScreen$Keyboard" 212 y_Te_write m_Te_write 2 3 := ⟨⟨cd_Te_write, (kmem (i := 485) (by decide +kernel) (by decide +kernel)), (kmem (i := 486) (by decide +kernel) (by decide +kernel)), (kmem (i := 487) (by decide +kernel) (by decide +kernel)), (kmem (i := 106) (by decide +kernel) (by decide +kernel))⟩, by decide +kernel, ⟨_, _, rfl, fun _ => rfl⟩⟩
theorem c_Kb_215 : kCV "KeyScreen$Keyboard" 215 y_Te_codeAt m_Te_codeAt 2 2 := ⟨⟨cd_Te_codeAt, (kmem (i := 481) (by decide +kernel) (by decide +kernel)), (kmem (i := 482) (by decide +kernel) (by decide +kernel)), (kmem (i := 483) (by decide +kernel) (by decide +kernel)), (kmem (i := 106) (by decide +kernel) (by decide +kernel))⟩, by decide +kernel, ⟨_, _, rfl, fun _ => rfl⟩⟩
theorem c_Kb_218 : kCV "KeyScreen$Keyboard" 218 y_Ke_isFull m_Ke_isFull 6 0 := ⟨⟨cd_Ke_isFull, (kmem (i := 502) (by decide +kernel) (by decide +kernel)), (kmem (i := 503) (by decide +kernel) (by decide +kernel)), (kmem (i := 504) (by decide +kernel) (by decide +kernel)), (kmem (i := 113) (by decide +kernel) (by decide +kernel))⟩, by decide +kernel, ⟨_, _, rfl, fun _ => rfl⟩⟩
theorem c_Kb_221 : kCV "KeyScreen$Keyboard" 221 y_Cl_search m_Cl_search 7 1 := ⟨⟨cd_Cl_search, (kmem (i := 506) (by decide +kernel) (by decide +kernel)), (kmem (i := 507) (by decide +kernel) (by decide +kernel)), (kmem (i := 508) (by decide +kernel) (by decide +kernel)), (kmem (i := 111) (by decide +kernel) (by decide +kernel))⟩, by decide +kernel, ⟨_, _, rfl, fun _ => rfl⟩⟩
theorem c_Kb_227 : kCV "KeyScreen$Keyboard" 227 y_Cl_carryOut m_Cl_carryOut 7 1 := ⟨⟨cd_Cl_carryOut, (kmem (i := 556) (by decide +kernel) (by decide +kernel)), (kmem (i := 557) (by decide +kernel) (by decide +kernel)), (kmem (i := 558) (by decide +kernel) (by decide +kernel)), (kmem (i := 111) (by decide +kernel) (by decide +kernel))⟩, by decide +kernel, ⟨_, _, rfl, fun _ => rfl⟩⟩
theorem T_Ks_10 : kFL "KeyScreen" 10 0 0 4 (.object "KeyScreen$Desk") := ⟨_, T_Ks, t_Ks, rfl, by decide, in_Ks, (kmem (i := 419) (by decide +kernel) (by decide +kernel)), ok_Ks, nm_Ks, rfl⟩
theorem U_Ks_10 : kFe "KeyScreen" 10 0 0 := kFe.mk T_Ks_10 (fun _ => rfl) (fun h => absurd h (by decide)) (fun h => absurd h (by decide)) (fun h => absurd h (by decide))
theorem T_Ks_19 : kFL "KeyScreen" 19 0 1 4 (.object "KeyScreen$Disk") := ⟨_, T_Ks, t_Ks, rfl, by decide, in_Ks, (kmem (i := 420) (by decide +kernel) (by decide +kernel)), ok_Ks, nm_Ks, rfl⟩
theorem U_Ks_19 : kFe "KeyScreen" 19 0 1 := kFe.mk T_Ks_19 (fun _ => rfl) (fun h => absurd h (by decide)) (fun h => absurd h (by decide)) (fun h => absurd h (by decide))
theorem T_Ks_32 : kFL "KeyScreen" 32 0 2 4 (.object "KeyScreen$Window") := ⟨_, T_Ks, t_Ks, rfl, by decide, in_Ks, (kmem (i := 421) (by decide +kernel) (by decide +kernel)), ok_Ks, nm_Ks, rfl⟩
theorem U_Ks_32 : kFe "KeyScreen" 32 0 2 := kFe.mk T_Ks_32 (fun _ => rfl) (fun h => absurd h (by decide)) (fun h => absurd h (by decide)) (fun h => absurd h (by decide))
theorem T_Ks_46 : kFL "KeyScreen" 46 0 3 4 (.object "KeyScreen$Keyboard") := ⟨_, T_Ks, t_Ks, rfl, by decide, in_Ks, (kmem (i := 422) (by decide +kernel) (by decide +kernel)), ok_Ks, nm_Ks, rfl⟩
theorem U_Ks_46 : kFe "KeyScreen" 46 0 3 := kFe.mk T_Ks_46 (fun _ => rfl) (fun h => absurd h (by decide)) (fun h => absurd h (by decide)) (fun h => absurd h (by decide))
theorem T_Ks_53 : kFL "KeyScreen" 53 5 6 13 (.int) := ⟨_, T_Kb, t_Kb, rfl, by decide, in_Kb, (kmem (i := 385) (by decide +kernel) (by decide +kernel)), ok_Kb, nm_Kb, rfl⟩
theorem U_Ks_53 : kFe "KeyScreen" 53 5 6 := kFe.mk T_Ks_53 (fun _ => rfl) (fun _ => ⟨rfl, ⟨_, _, _, rfl, rfl⟩⟩) (fun h => absurd h (by decide)) (fun h => absurd h (by decide))
theorem T_Ks_73 : kFL "KeyScreen" 73 1 0 6 (.object "KeyScreen$Text") := ⟨_, T_De, t_De, rfl, by decide, in_De, (kmem (i := 179) (by decide +kernel) (by decide +kernel)), ok_De, nm_De, rfl⟩
theorem U_Ks_73 : kFe "KeyScreen" 73 1 0 := kFe.mk T_Ks_73 (fun _ => rfl) (fun h => absurd h (by decide)) (fun h => absurd h (by decide)) (fun h => absurd h (by decide))
theorem T_Ks_95 : kFL "KeyScreen" 95 4 3 5 (.int) := ⟨_, T_Wi, t_Wi, rfl, by decide, in_Wi, (kmem (i := 255) (by decide +kernel) (by decide +kernel)), ok_Wi, nm_Wi, rfl⟩
theorem U_Ks_95 : kFe "KeyScreen" 95 4 3 := kFe.mk T_Ks_95 (fun _ => rfl) (fun _ => ⟨rfl, ⟨_, _, _, rfl, rfl⟩⟩) (fun h => absurd h (by decide)) (fun h => absurd h (by decide))
theorem T_Ks_98 : kFL "KeyScreen" 98 2 2 5 (.int) := ⟨_, T_Te, t_Te, rfl, by decide, in_Te, (kmem (i := 149) (by decide +kernel) (by decide +kernel)), ok_Te, nm_Te, rfl⟩
theorem U_Ks_98 : kFe "KeyScreen" 98 2 2 := kFe.mk T_Ks_98 (fun _ => rfl) (fun _ => ⟨rfl, ⟨_, _, _, rfl, rfl⟩⟩) (fun h => absurd h (by decide)) (fun h => absurd h (by decide))
theorem T_Ks_111 : kFL "KeyScreen" 111 2 3 5 (.int) := ⟨_, T_Te, t_Te, rfl, by decide, in_Te, (kmem (i := 158) (by decide +kernel) (by decide +kernel)), ok_Te, nm_Te, rfl⟩
theorem U_Ks_111 : kFe "KeyScreen" 111 2 3 := kFe.mk T_Ks_111 (fun _ => rfl) (fun _ => ⟨rfl, ⟨_, _, _, rfl, rfl⟩⟩) (fun h => absurd h (by decide)) (fun h => absurd h (by decide))
theorem T_Ks_114 : kFL "KeyScreen" 114 2 4 5 (.int) := ⟨_, T_Te, t_Te, rfl, by decide, in_Te, (kmem (i := 163) (by decide +kernel) (by decide +kernel)), ok_Te, nm_Te, rfl⟩
theorem U_Ks_114 : kFe "KeyScreen" 114 2 4 := kFe.mk T_Ks_114 (fun _ => rfl) (fun _ => ⟨rfl, ⟨_, _, _, rfl, rfl⟩⟩) (fun h => absurd h (by decide)) (fun h => absurd h (by decide))
theorem T_Ks_117 : kFL "KeyScreen" 117 1 4 6 (.int) := ⟨_, T_De, t_De, rfl, by decide, in_De, (kmem (i := 188) (by decide +kernel) (by decide +kernel)), ok_De, nm_De, rfl⟩
theorem U_Ks_117 : kFe "KeyScreen" 117 1 4 := kFe.mk T_Ks_117 (fun _ => rfl) (fun _ => ⟨rfl, ⟨_, _, _, rfl, rfl⟩⟩) (fun h => absurd h (by decide)) (fun h => absurd h (by decide))
theorem T_Ks_120 : kFL "KeyScreen" 120 1 3 6 (.object "KeyScreen$Text") := ⟨_, T_De, t_De, rfl, by decide, in_De, (kmem (i := 186) (by decide +kernel) (by decide +kernel)), ok_De, nm_De, rfl⟩
theorem U_Ks_120 : kFe "KeyScreen" 120 1 3 := kFe.mk T_Ks_120 (fun _ => rfl) (fun h => absurd h (by decide)) (fun h => absurd h (by decide)) (fun h => absurd h (by decide))
theorem T_Ks_123 : kFL "KeyScreen" 123 3 0 7 (.object "KeyScreen$Text") := ⟨_, T_Di, t_Di, rfl, by decide, in_Di, (kmem (i := 216) (by decide +kernel) (by decide +kernel)), ok_Di, nm_Di, rfl⟩
theorem U_Ks_123 : kFe "KeyScreen" 123 3 0 := kFe.mk T_Ks_123 (fun _ => rfl) (fun h => absurd h (by decide)) (fun h => absurd h (by decide)) (fun h => absurd h (by decide))
theorem T_Ks_127 : kFL "KeyScreen" 127 4 4 5 (.int) := ⟨_, T_Wi, t_Wi, rfl, by decide, in_Wi, (kmem (i := 257) (by decide +kernel) (by decide +kernel)), ok_Wi, nm_Wi, rfl⟩
theorem U_Ks_127 : kFe "KeyScreen" 127 4 4 := kFe.mk T_Ks_127 (fun _ => rfl) (fun _ => ⟨rfl, ⟨_, _, _, rfl, rfl⟩⟩) (fun h => absurd h (by decide)) (fun h => absurd h (by decide))
def F_Ks : Nat → Option (Nat × Nat) := fun idx => ([(10, 0, 0), (19, 0, 1), (32, 0, 2), (46, 0, 3), (53, 5, 6), (73, 1, 0), (95, 4, 3), (98, 2, 2), (111, 2, 3), (114, 2, 4), (117, 1, 4), (120, 1, 3), (123, 3, 0), (127, 4, 4)] : List (Nat × Nat × Nat)).lookup idx
theorem hF_Ks : kFok "KeyScreen" F_Ks := kFok_of (List.forall_mem_cons.mpr ⟨U_Ks_10, (List.forall_mem_cons.mpr ⟨U_Ks_19, (List.forall_mem_cons.mpr ⟨U_Ks_32, (List.forall_mem_cons.mpr ⟨U_Ks_46, (List.forall_mem_cons.mpr ⟨U_Ks_53, (List.forall_mem_cons.mpr ⟨U_Ks_73, (List.forall_mem_cons.mpr ⟨U_Ks_95, (List.forall_mem_cons.mpr ⟨U_Ks_98, (List.forall_mem_cons.mpr ⟨U_Ks_111, (List.forall_mem_cons.mpr ⟨U_Ks_114, (List.forall_mem_cons.mpr ⟨U_Ks_117, (List.forall_mem_cons.mpr ⟨U_Ks_120, (List.forall_mem_cons.mpr ⟨U_Ks_123, (List.forall_mem_cons.mpr ⟨U_Ks_127, (fun _ h => absurd h List.not_mem_nil)⟩)⟩)⟩)⟩)⟩)⟩)⟩)⟩)⟩)⟩)⟩)⟩)⟩)⟩)
theorem c_Ks_25 : kCS "KeyScreen" 25 y_Ks_isWidth m_Ks_isWidth 1 := ⟨⟨cd_Ks_isWidth, (kmem (i := 241) (by decide +kernel) (by decide +kernel)), (kmem (i := 242) (by decide +kernel) (by decide +kernel)), (kmem (i := 104) (by decide +kernel) (by decide +kernel))⟩, by decide +kernel⟩
theorem c_Ks_50 : kCS "KeyScreen" 50 y_Ks_isKey m_Ks_isKey 1 := ⟨⟨cd_Ks_isKey, (kmem (i := 436) (by decide +kernel) (by decide +kernel)), (kmem (i := 437) (by decide +kernel) (by decide +kernel)), (kmem (i := 104) (by decide +kernel) (by decide +kernel))⟩, by decide +kernel⟩
theorem c_Ks_57 : kCV "KeyScreen" 57 y_Kb_insert m_Kb_insert 5 1 := ⟨⟨cd_Kb_insert, (kmem (i := 439) (by decide +kernel) (by decide +kernel)), (kmem (i := 440) (by decide +kernel) (by decide +kernel)), (kmem (i := 441) (by decide +kernel) (by decide +kernel)), (kmem (i := 110) (by decide +kernel) (by decide +kernel))⟩, by decide +kernel, ⟨_, _, rfl, fun _ => rfl⟩⟩
theorem c_Ks_60 : kCV "KeyScreen" 60 y_Kb_ask m_Kb_ask 5 1 := ⟨⟨cd_Kb_ask, (kmem (i := 498) (by decide +kernel) (by decide +kernel)), (kmem (i := 499) (by decide +kernel) (by decide +kernel)), (kmem (i := 500) (by decide +kernel) (by decide +kernel)), (kmem (i := 110) (by decide +kernel) (by decide +kernel))⟩, by decide +kernel, ⟨_, _, rfl, fun _ => rfl⟩⟩
theorem c_Ks_63 : kCV "KeyScreen" 63 y_Kb_isRepeat m_Kb_isRepeat 5 1 := ⟨⟨cd_Kb_isRepeat, (kmem (i := 665) (by decide +kernel) (by decide +kernel)), (kmem (i := 666) (by decide +kernel) (by decide +kernel)), (kmem (i := 667) (by decide +kernel) (by decide +kernel)), (kmem (i := 110) (by decide +kernel) (by decide +kernel))⟩, by decide +kernel, ⟨_, _, rfl, fun _ => rfl⟩⟩
theorem c_Ks_66 : kCV "KeyScreen" 66 y_Kb_repeat m_Kb_repeat 5 0 := ⟨⟨cd_Kb_repeat, (kmem (i := 669) (by decide +kernel) (by decide +kernel)), (kmem (i := 670) (by decide +kernel) (by decide +kernel)), (kmem (i := 671) (by decide +kernel) (by decide +kernel)), (kmem (i := 110) (by decide +kernel) (by decide +kernel))⟩, by decide +kernel, ⟨_, _, rfl, fun _ => rfl⟩⟩
theorem c_Ks_70 : kCV "KeyScreen" 70 y_Kb_command m_Kb_command 5 1 := ⟨⟨cd_Kb_command, (kmem (i := 794) (by decide +kernel) (by decide +kernel)), (kmem (i := 678) (by decide +kernel) (by decide +kernel)), (kmem (i := 679) (by decide +kernel) (by decide +kernel)), (kmem (i := 110) (by decide +kernel) (by decide +kernel))⟩, by decide +kernel, ⟨_, _, rfl, fun _ => rfl⟩⟩
theorem c_Ks_77 : kCV "KeyScreen" 77 y_Wi_show m_Wi_show 4 1 := ⟨⟨cd_Wi_show, (kmem (i := 795) (by decide +kernel) (by decide +kernel)), (kmem (i := 796) (by decide +kernel) (by decide +kernel)), (kmem (i := 797) (by decide +kernel) (by decide +kernel)), (kmem (i := 108) (by decide +kernel) (by decide +kernel))⟩, by decide +kernel, ⟨_, _, rfl, fun _ => rfl⟩⟩
theorem c_Ks_81 : kCV "KeyScreen" 81 y_Wi_wipe m_Wi_wipe 4 1 := ⟨⟨cd_Wi_wipe, (kmem (i := 823) (by decide +kernel) (by decide +kernel)), (kmem (i := 824) (by decide +kernel) (by decide +kernel)), (kmem (i := 825) (by decide +kernel) (by decide +kernel)), (kmem (i := 108) (by decide +kernel) (by decide +kernel))⟩, by decide +kernel, ⟨_, _, rfl, fun _ => rfl⟩⟩
theorem c_Ks_84 : kCV "KeyScreen" 84 y_Di_writeBlock m_Di_writeBlock 3 0 := ⟨⟨cd_Di_writeBlock, (kmem (i := 831) (by decide +kernel) (by decide +kernel)), (kmem (i := 832) (by decide +kernel) (by decide +kernel)), (kmem (i := 833) (by decide +kernel) (by decide +kernel)), (kmem (i := 107) (by decide +kernel) (by decide +kernel))⟩, by decide +kernel, ⟨_, _, rfl, fun _ => rfl⟩⟩
theorem c_Ks_88 : kCV "KeyScreen" 88 y_De_reset m_De_reset 1 0 := ⟨⟨cd_De_reset, (kmem (i := 840) (by decide +kernel) (by decide +kernel)), (kmem (i := 841) (by decide +kernel) (by decide +kernel)), (kmem (i := 842) (by decide +kernel) (by decide +kernel)), (kmem (i := 105) (by decide +kernel) (by decide +kernel))⟩, by decide +kernel, ⟨_, _, rfl, fun _ => rfl⟩⟩
theorem c_Ks_91 : kCV "KeyScreen" 91 y_Kb_reset m_Kb_reset 5 0 := ⟨⟨cd_Kb_reset, (kmem (i := 844) (by decide +kernel) (by decide +kernel)), (kmem (i := 845) (by decide +kernel) (by decide +kernel)), (kmem (i := 846) (by decide +kernel) (by decide +kernel)), (kmem (i := 110) (by decide +kernel) (by decide +kernel))⟩, by decide +kernel, ⟨_, _, rfl, fun _ => rfl⟩⟩
theorem c_Ks_92 : kCV "KeyScreen" 92 y_Di_recover m_Di_recover 3 1 := ⟨⟨cd_Di_recover, (kmem (i := 848) (by decide +kernel) (by decide +kernel)), (kmem (i := 849) (by decide +kernel) (by decide +kernel)), (kmem (i := 850) (by decide +kernel) (by decide +kernel)), (kmem (i := 107) (by decide +kernel) (by decide +kernel))⟩, by decide +kernel, ⟨_, _, rfl, fun _ => rfl⟩⟩
theorem c_Ks_103 : kCV "KeyScreen" 103 y_Te_sizeOf m_Te_sizeOf 2 1 := ⟨⟨cd_Te_sizeOf, (kmem (i := 864) (by decide +kernel) (by decide +kernel)), (kmem (i := 457) (by decide +kernel) (by decide +kernel)), (kmem (i := 458) (by decide +kernel) (by decide +kernel)), (kmem (i := 106) (by decide +kernel) (by decide +kernel))⟩, by decide +kernel, ⟨_, _, rfl, fun _ => rfl⟩⟩
theorem c_Ks_107 : kCV "KeyScreen" 107 y_Te_codeAt m_Te_codeAt 2 2 := ⟨⟨cd_Te_codeAt, (kmem (i := 869) (by decide +kernel) (by decide +kernel)), (kmem (i := 482) (by decide +kernel) (by decide +kernel)), (kmem (i := 483) (by decide +kernel) (by decide +kernel)), (kmem (i := 106) (by decide +kernel) (by decide +kernel))⟩, by decide +kernel, ⟨_, _, rfl, fun _ => rfl⟩⟩
theorem c_Ks_126 : kCV "KeyScreen" 126 y_Wi_codeAt m_Wi_codeAt 4 2 := ⟨⟨cd_Wi_codeAt, (kmem (i := 894) (by decide +kernel) (by decide +kernel)), (kmem (i := 895) (by decide +kernel) (by decide +kernel)), (kmem (i := 896) (by decide +kernel) (by decide +kernel)), (kmem (i := 108) (by decide +kernel) (by decide +kernel))⟩, by decide +kernel, ⟨_, _, rfl, fun _ => rfl⟩⟩
theorem T_Rm_7 : kFL "KeyScreenModel" 7 9 0 42 (.array .int) := ⟨_, T_Rm, t_Rm, rfl, by decide, in_Rm, (kmem (i := 927) (by decide +kernel) (by decide +kernel)), ok_Rm, nm_Rm, rfl⟩
theorem U_Rm_7 : kFe "KeyScreenModel" 7 9 0 := kFe.mk T_Rm_7 (fun _ => rfl) (fun h => absurd h (by decide)) (fun h => absurd h (by decide)) (fun h => absurd h (by decide))
theorem T_Rm_13 : kFL "KeyScreenModel" 13 9 1 42 (.array .int) := ⟨_, T_Rm, t_Rm, rfl, by decide, in_Rm, (kmem (i := 928) (by decide +kernel) (by decide +kernel)), ok_Rm, nm_Rm, rfl⟩
theorem U_Rm_13 : kFe "KeyScreenModel" 13 9 1 := kFe.mk T_Rm_13 (fun _ => rfl) (fun h => absurd h (by decide)) (fun h => absurd h (by decide)) (fun h => absurd h (by decide))
theorem T_Rm_16 : kFL "KeyScreenModel" 16 9 2 42 (.array .int) := ⟨_, T_Rm, t_Rm, rfl, by decide, in_Rm, (kmem (i := 929) (by decide +kernel) (by decide +kernel)), ok_Rm, nm_Rm, rfl⟩
theorem U_Rm_16 : kFe "KeyScreenModel" 16 9 2 := kFe.mk T_Rm_16 (fun _ => rfl) (fun h => absurd h (by decide)) (fun h => absurd h (by decide)) (fun h => absurd h (by decide))
theorem T_Rm_19 : kFL "KeyScreenModel" 19 9 3 42 (.array .int) := ⟨_, T_Rm, t_Rm, rfl, by decide, in_Rm, (kmem (i := 930) (by decide +kernel) (by decide +kernel)), ok_Rm, nm_Rm, rfl⟩
theorem U_Rm_19 : kFe "KeyScreenModel" 19 9 3 := kFe.mk T_Rm_19 (fun _ => rfl) (fun h => absurd h (by decide)) (fun h => absurd h (by decide)) (fun h => absurd h (by decide))
theorem T_Rm_22 : kFL "KeyScreenModel" 22 9 4 42 (.array .int) := ⟨_, T_Rm, t_Rm, rfl, by decide, in_Rm, (kmem (i := 931) (by decide +kernel) (by decide +kernel)), ok_Rm, nm_Rm, rfl⟩
theorem U_Rm_22 : kFe "KeyScreenModel" 22 9 4 := kFe.mk T_Rm_22 (fun _ => rfl) (fun h => absurd h (by decide)) (fun h => absurd h (by decide)) (fun h => absurd h (by decide))
theorem T_Rm_25 : kFL "KeyScreenModel" 25 9 11 42 (.array .int) := ⟨_, T_Rm, t_Rm, rfl, by decide, in_Rm, (kmem (i := 938) (by decide +kernel) (by decide +kernel)), ok_Rm, nm_Rm, rfl⟩
theorem U_Rm_25 : kFe "KeyScreenModel" 25 9 11 := kFe.mk T_Rm_25 (fun _ => rfl) (fun h => absurd h (by decide)) (fun h => absurd h (by decide)) (fun h => absurd h (by decide))
theorem T_Rm_28 : kFL "KeyScreenModel" 28 9 13 42 (.array .int) := ⟨_, T_Rm, t_Rm, rfl, by decide, in_Rm, (kmem (i := 940) (by decide +kernel) (by decide +kernel)), ok_Rm, nm_Rm, rfl⟩
theorem U_Rm_28 : kFe "KeyScreenModel" 28 9 13 := kFe.mk T_Rm_28 (fun _ => rfl) (fun h => absurd h (by decide)) (fun h => absurd h (by decide)) (fun h => absurd h (by decide))
theorem T_Rm_31 : kFL "KeyScreenModel" 31 9 19 42 (.array .int) := ⟨_, T_Rm, t_Rm, rfl, by decide, in_Rm, (kmem (i := 946) (by decide +kernel) (by decide +kernel)), ok_Rm, nm_Rm, rfl⟩
theorem U_Rm_31 : kFe "KeyScreenModel" 31 9 19 := kFe.mk T_Rm_31 (fun _ => rfl) (fun h => absurd h (by decide)) (fun h => absurd h (by decide)) (fun h => absurd h (by decide))
theorem T_Rm_34 : kFL "KeyScreenModel" 34 9 24 42 (.array .int) := ⟨_, T_Rm, t_Rm, rfl, by decide, in_Rm, (kmem (i := 951) (by decide +kernel) (by decide +kernel)), ok_Rm, nm_Rm, rfl⟩
theorem U_Rm_34 : kFe "KeyScreenModel" 34 9 24 := kFe.mk T_Rm_34 (fun _ => rfl) (fun h => absurd h (by decide)) (fun h => absurd h (by decide)) (fun h => absurd h (by decide))
theorem T_Rm_37 : kFL "KeyScreenModel" 37 9 25 42 (.array .int) := ⟨_, T_Rm, t_Rm, rfl, by decide, in_Rm, (kmem (i := 952) (by decide +kernel) (by decide +kernel)), ok_Rm, nm_Rm, rfl⟩
theorem U_Rm_37 : kFe "KeyScreenModel" 37 9 25 := kFe.mk T_Rm_37 (fun _ => rfl) (fun h => absurd h (by decide)) (fun h => absurd h (by decide)) (fun h => absurd h (by decide))
theorem T_Rm_40 : kFL "KeyScreenModel" 40 9 26 42 (.array .int) := ⟨_, T_Rm, t_Rm, rfl, by decide, in_Rm, (kmem (i := 953) (by decide +kernel) (by decide +kernel)), ok_Rm, nm_Rm, rfl⟩
theorem U_Rm_40 : kFe "KeyScreenModel" 40 9 26 := kFe.mk T_Rm_40 (fun _ => rfl) (fun h => absurd h (by decide)) (fun h => absurd h (by decide)) (fun h => absurd h (by decide))
theorem T_Rm_43 : kFL "KeyScreenModel" 43 9 27 42 (.array .boolean) := ⟨_, T_Rm, t_Rm, rfl, by decide, in_Rm, (kmem (i := 954) (by decide +kernel) (by decide +kernel)), ok_Rm, nm_Rm, rfl⟩
theorem U_Rm_43 : kFe "KeyScreenModel" 43 9 27 := kFe.mk T_Rm_43 (fun _ => rfl) (fun h => absurd h (by decide)) (fun h => absurd h (by decide)) (fun h => absurd h (by decide))
theorem T_Rm_47 : kFL "KeyScreenModel" 47 9 32 42 (.array .int) := ⟨_, T_Rm, t_Rm, rfl, by decide, in_Rm, (kmem (i := 959) (by decide +kernel) (by decide +kernel)), ok_Rm, nm_Rm, rfl⟩
theorem U_Rm_47 : kFe "KeyScreenModel" 47 9 32 := kFe.mk T_Rm_47 (fun _ => rfl) (fun h => absurd h (by decide)) (fun h => absurd h (by decide)) (fun h => absurd h (by decide))
theorem T_Rm_50 : kFL "KeyScreenModel" 50 9 33 42 (.array .int) := ⟨_, T_Rm, t_Rm, rfl, by decide, in_Rm, (kmem (i := 960) (by decide +kernel) (by decide +kernel)), ok_Rm, nm_Rm, rfl⟩
theorem U_Rm_50 : kFe "KeyScreenModel" 50 9 33 := kFe.mk T_Rm_50 (fun _ => rfl) (fun h => absurd h (by decide)) (fun h => absurd h (by decide)) (fun h => absurd h (by decide))
theorem T_Rm_53 : kFL "KeyScreenModel" 53 9 35 42 (.array .int) := ⟨_, T_Rm, t_Rm, rfl, by decide, in_Rm, (kmem (i := 962) (by decide +kernel) (by decide +kernel)), ok_Rm, nm_Rm, rfl⟩
theorem U_Rm_53 : kFe "KeyScreenModel" 53 9 35 := kFe.mk T_Rm_53 (fun _ => rfl) (fun h => absurd h (by decide)) (fun h => absurd h (by decide)) (fun h => absurd h (by decide))
theorem T_Rm_56 : kFL "KeyScreenModel" 56 9 36 42 (.array .int) := ⟨_, T_Rm, t_Rm, rfl, by decide, in_Rm, (kmem (i := 963) (by decide +kernel) (by decide +kernel)), ok_Rm, nm_Rm, rfl⟩
theorem U_Rm_56 : kFe "KeyScreenModel" 56 9 36 := kFe.mk T_Rm_56 (fun _ => rfl) (fun h => absurd h (by decide)) (fun h => absurd h (by decide)) (fun h => absurd h (by decide))
theorem T_Rm_59 : kFL "KeyScreenModel" 59 9 40 42 (.array .int) := ⟨_, T_Rm, t_Rm, rfl, by decide, in_Rm, (kmem (i := 967) (by decide +kernel) (by decide +kernel)), ok_Rm, nm_Rm, rfl⟩
theorem U_Rm_59 : kFe "KeyScreenModel" 59 9 40 := kFe.mk T_Rm_59 (fun _ => rfl) (fun h => absurd h (by decide)) (fun h => absurd h (by decide)) (fun h => absurd h (by decide))
theorem T_Rm_62 : kFL "KeyScreenModel" 62 9 41 42 (.array .int) := ⟨_, T_Rm, t_Rm, rfl, by decide, in_Rm, (kmem (i := 968) (by decide +kernel) (by decide +kernel)), ok_Rm, nm_Rm, rfl⟩
theorem U_Rm_62 : kFe "KeyScreenModel" 62 9 41 := kFe.mk T_Rm_62 (fun _ => rfl) (fun h => absurd h (by decide)) (fun h => absurd h (by decide)) (fun h => absurd h (by decide))
theorem T_Rm_65 : kFL "KeyScreenModel" 65 9 37 42 (.int) := ⟨_, T_Rm, t_Rm, rfl, by decide, in_Rm, (kmem (i := 964) (by decide +kernel) (by decide +kernel)), ok_Rm, nm_Rm, rfl⟩
theorem U_Rm_65 : kFe "KeyScreenModel" 65 9 37 := kFe.mk T_Rm_65 (fun _ => rfl) (fun _ => ⟨rfl, ⟨_, _, _, rfl, rfl⟩⟩) (fun h => absurd h (by decide)) (fun h => absurd h (by decide))
theorem T_Rm_75 : kFL "KeyScreenModel" 75 9 5 42 (.int) := ⟨_, T_Rm, t_Rm, rfl, by decide, in_Rm, (kmem (i := 932) (by decide +kernel) (by decide +kernel)), ok_Rm, nm_Rm, rfl⟩
theorem U_Rm_75 : kFe "KeyScreenModel" 75 9 5 := kFe.mk T_Rm_75 (fun _ => rfl) (fun _ => ⟨rfl, ⟨_, _, _, rfl, rfl⟩⟩) (fun h => absurd h (by decide)) (fun h => absurd h (by decide))
theorem T_Rm_78 : kFL "KeyScreenModel" 78 9 6 42 (.boolean) := ⟨_, T_Rm, t_Rm, rfl, by decide, in_Rm, (kmem (i := 933) (by decide +kernel) (by decide +kernel)), ok_Rm, nm_Rm, rfl⟩
theorem U_Rm_78 : kFe "KeyScreenModel" 78 9 6 := kFe.mk T_Rm_78 (fun _ => rfl) (fun h => absurd h (by decide)) (fun _ => ⟨rfl, ⟨_, _, _, rfl, rfl⟩⟩) (fun h => absurd h (by decide))
theorem T_Rm_82 : kFL "KeyScreenModel" 82 9 7 42 (.int) := ⟨_, T_Rm, t_Rm, rfl, by decide, in_Rm, (kmem (i := 934) (by decide +kernel) (by decide +kernel)), ok_Rm, nm_Rm, rfl⟩
theorem U_Rm_82 : kFe "KeyScreenModel" 82 9 7 := kFe.mk T_Rm_82 (fun _ => rfl) (fun _ => ⟨rfl, ⟨_, _, _, rfl, rfl⟩⟩) (fun h => absurd h (by decide)) (fun h => absurd h (by decide))
theorem T_Rm_85 : kFL "KeyScreenModel" 85 9 14 42 (.int) := ⟨_, T_Rm, t_Rm, rfl, by decide, in_Rm, (kmem (i := 941) (by decide +kernel) (by decide +kernel)), ok_Rm, nm_Rm, rfl⟩
theorem U_Rm_85 : kFe "KeyScreenModel" 85 9 14 := kFe.mk T_Rm_85 (fun _ => rfl) (fun _ => ⟨rfl, ⟨_, _, _, rfl, rfl⟩⟩) (fun h => absurd h (by decide)) (fun h => absurd h (by decide))
theorem T_Rm_88 : kFL "KeyScreenModel" 88 9 34 42 (.int) := ⟨_, T_Rm, t_Rm, rfl, by decide, in_Rm, (kmem (i := 961) (by decide +kernel) (by decide +kernel)), ok_Rm, nm_Rm, rfl⟩
theorem U_Rm_88 : kFe "KeyScreenModel" 88 9 34 := kFe.mk T_Rm_88 (fun _ => rfl) (fun _ => ⟨rfl, ⟨_, _, _, rfl, rfl⟩⟩) (fun h => absurd h (by decide)) (fun h => absurd h (by decide))
theorem T_Rm_91 : kFL "KeyScreenModel" 91 9 38 42 (.int) := ⟨_, T_Rm, t_Rm, rfl, by decide, in_Rm, (kmem (i := 965) (by decide +kernel) (by decide +kernel)), ok_Rm, nm_Rm, rfl⟩
theorem U_Rm_91 : kFe "KeyScreenModel" 91 9 38 := kFe.mk T_Rm_91 (fun _ => rfl) (fun _ => ⟨rfl, ⟨_, _, _, rfl, rfl⟩⟩) (fun h => absurd h (by decide)) (fun h => absurd h (by decide))
theorem T_Rm_97 : kFL "KeyScreenModel" 97 9 8 42 (.int) := ⟨_, T_Rm, t_Rm, rfl, by decide, in_Rm, (kmem (i := 935) (by decide +kernel) (by decide +kernel)), ok_Rm, nm_Rm, rfl⟩
theorem U_Rm_97 : kFe "KeyScreenModel" 97 9 8 := kFe.mk T_Rm_97 (fun _ => rfl) (fun _ => ⟨rfl, ⟨_, _, _, rfl, rfl⟩⟩) (fun h => absurd h (by decide)) (fun h => absurd h (by decide))
theorem T_Rm_100 : kFL "KeyScreenModel" 100 9 9 42 (.int) := ⟨_, T_Rm, t_Rm, rfl, by decide, in_Rm, (kmem (i := 936) (by decide +kernel) (by decide +kernel)), ok_Rm, nm_Rm, rfl⟩
theorem U_Rm_100 : kFe "KeyScreenModel" 100 9 9 := kFe.mk T_Rm_100 (fun _ => rfl) (fun _ => ⟨rfl, ⟨_, _, _, rfl, rfl⟩⟩) (fun h => absurd h (by decide)) (fun h => absurd h (by decide))
theorem T_Rm_103 : kFL "KeyScreenModel" 103 9 10 42 (.int) := ⟨_, T_Rm, t_Rm, rfl, by decide, in_Rm, (kmem (i := 937) (by decide +kernel) (by decide +kernel)), ok_Rm, nm_Rm, rfl⟩
theorem U_Rm_103 : kFe "KeyScreenModel" 103 9 10 := kFe.mk T_Rm_103 (fun _ => rfl) (fun _ => ⟨rfl, ⟨_, _, _, rfl, rfl⟩⟩) (fun h => absurd h (by decide)) (fun h => absurd h (by decide))
theorem T_Rm_106 : kFL "KeyScreenModel" 106 9 12 42 (.int) := ⟨_, T_Rm, t_Rm, rfl, by decide, in_Rm, (kmem (i := 939) (by decide +kernel) (by decide +kernel)), ok_Rm, nm_Rm, rfl⟩
theorem U_Rm_106 : kFe "KeyScreenModel" 106 9 12 := kFe.mk T_Rm_106 (fun _ => rfl) (fun _ => ⟨rfl, ⟨_, _, _, rfl, rfl⟩⟩) (fun h => absurd h (by decide)) (fun h => absurd h (by decide))
theorem T_Rm_132 : kFL "KeyScreenModel" 132 9 15 42 (.boolean) := ⟨_, T_Rm, t_Rm, rfl, by decide, in_Rm, (kmem (i := 942) (by decide +kernel) (by decide +kernel)), ok_Rm, nm_Rm, rfl⟩
theorem U_Rm_132 : kFe "KeyScreenModel" 132 9 15 := kFe.mk T_Rm_132 (fun _ => rfl) (fun h => absurd h (by decide)) (fun _ => ⟨rfl, ⟨_, _, _, rfl, rfl⟩⟩) (fun h => absurd h (by decide))
theorem T_Rm_158 : kFL "KeyScreenModel" 158 9 21 42 (.int) := ⟨_, T_Rm, t_Rm, rfl, by decide, in_Rm, (kmem (i := 948) (by decide +kernel) (by decide +kernel)), ok_Rm, nm_Rm, rfl⟩
theorem U_Rm_158 : kFe "KeyScreenModel" 158 9 21 := kFe.mk T_Rm_158 (fun _ => rfl) (fun _ => ⟨rfl, ⟨_, _, _, rfl, rfl⟩⟩) (fun h => absurd h (by decide)) (fun h => absurd h (by decide))
theorem T_Rm_161 : kFL "KeyScreenModel" 161 9 20 42 (.int) := ⟨_, T_Rm, t_Rm, rfl, by decide, in_Rm, (kmem (i := 947) (by decide +kernel) (by decide +kernel)), ok_Rm, nm_Rm, rfl⟩
theorem U_Rm_161 : kFe "KeyScreenModel" 161 9 20 := kFe.mk T_Rm_161 (fun _ => rfl) (fun _ => ⟨rfl, ⟨_, _, _, rfl, rfl⟩⟩) (fun h => absurd h (by decide)) (fun h => absurd h (by decide))
theorem T_Rm_168 : kFL "KeyScreenModel" 168 9 16 42 (.int) := ⟨_, T_Rm, t_Rm, rfl, by decide, in_Rm, (kmem (i := 943) (by decide +kernel) (by decide +kernel)), ok_Rm, nm_Rm, rfl⟩
theorem U_Rm_168 : kFe "KeyScreenModel" 168 9 16 := kFe.mk T_Rm_168 (fun _ => rfl) (fun _ => ⟨rfl, ⟨_, _, _, rfl, rfl⟩⟩) (fun h => absurd h (by decide)) (fun h => absurd h (by decide))
theorem T_Rm_171 : kFL "KeyScreenModel" 171 9 17 42 (.int) := ⟨_, T_Rm, t_Rm, rfl, by decide, in_Rm, (kmem (i := 944) (by decide +kernel) (by decide +kernel)), ok_Rm, nm_Rm, rfl⟩
theorem U_Rm_171 : kFe "KeyScreenModel" 171 9 17 := kFe.mk T_Rm_171 (fun _ => rfl) (fun _ => ⟨rfl, ⟨_, _, _, rfl, rfl⟩⟩) (fun h => absurd h (by decide)) (fun h => absurd h (by decide))
theorem T_Rm_201 : kFL "KeyScreenModel" 201 9 18 42 (.int) := ⟨_, T_Rm, t_Rm, rfl, by decide, in_Rm, (kmem (i := 945) (by decide +kernel) (by decide +kernel)), ok_Rm, nm_Rm, rfl⟩
theorem U_Rm_201 : kFe "KeyScreenModel" 201 9 18 := kFe.mk T_Rm_201 (fun _ => rfl) (fun _ => ⟨rfl, ⟨_, _, _, rfl, rfl⟩⟩) (fun h => absurd h (by decide)) (fun h => absurd h (by decide))
theorem T_Rm_238 : kFL "KeyScreenModel" 238 9 23 42 (.boolean) := ⟨_, T_Rm, t_Rm, rfl, by decide, in_Rm, (kmem (i := 950) (by decide +kernel) (by decide +kernel)), ok_Rm, nm_Rm, rfl⟩
theorem U_Rm_238 : kFe "KeyScreenModel" 238 9 23 := kFe.mk T_Rm_238 (fun _ => rfl) (fun h => absurd h (by decide)) (fun _ => ⟨rfl, ⟨_, _, _, rfl, rfl⟩⟩) (fun h => absurd h (by decide))
theorem T_Rm_241 : kFL "KeyScreenModel" 241 9 22 42 (.int) := ⟨_, T_Rm, t_Rm, rfl, by decide, in_Rm, (kmem (i := 949) (by decide +kernel) (by decide +kernel)), ok_Rm, nm_Rm, rfl⟩
theorem U_Rm_241 : kFe "KeyScreenModel" 241 9 22 := kFe.mk T_Rm_241 (fun _ => rfl) (fun _ => ⟨rfl, ⟨_, _, _, rfl, rfl⟩⟩) (fun h => absurd h (by decide)) (fun h => absurd h (by decide))
theorem T_Rm_243 : kFL "KeyScreenModel" 243 9 28 42 (.int) := ⟨_, T_Rm, t_Rm, rfl, by decide, in_Rm, (kmem (i := 955) (by decide +kernel) (by decide +kernel)), ok_Rm, nm_Rm, rfl⟩
theorem U_Rm_243 : kFe "KeyScreenModel" 243 9 28 := kFe.mk T_Rm_243 (fun _ => rfl) (fun _ => ⟨rfl, ⟨_, _, _, rfl, rfl⟩⟩) (fun h => absurd h (by decide)) (fun h => absurd h (by decide))
theorem T_Rm_246 : kFL "KeyScreenModel" 246 9 30 42 (.boolean) := ⟨_, T_Rm, t_Rm, rfl, by decide, in_Rm, (kmem (i := 957) (by decide +kernel) (by decide +kernel)), ok_Rm, nm_Rm, rfl⟩
theorem U_Rm_246 : kFe "KeyScreenModel" 246 9 30 := kFe.mk T_Rm_246 (fun _ => rfl) (fun h => absurd h (by decide)) (fun _ => ⟨rfl, ⟨_, _, _, rfl, rfl⟩⟩) (fun h => absurd h (by decide))
theorem T_Rm_252 : kFL "KeyScreenModel" 252 9 29 42 (.boolean) := ⟨_, T_Rm, t_Rm, rfl, by decide, in_Rm, (kmem (i := 956) (by decide +kernel) (by decide +kernel)), ok_Rm, nm_Rm, rfl⟩
theorem U_Rm_252 : kFe "KeyScreenModel" 252 9 29 := kFe.mk T_Rm_252 (fun _ => rfl) (fun h => absurd h (by decide)) (fun _ => ⟨rfl, ⟨_, _, _, rfl, rfl⟩⟩) (fun h => absurd h (by decide))
theorem T_Rm_304 : kFL "KeyScreenModel" 304 9 31 42 (.int) := ⟨_, T_Rm, t_Rm, rfl, by decide, in_Rm, (kmem (i := 958) (by decide +kernel) (by decide +kernel)), ok_Rm, nm_Rm, rfl⟩
theorem U_Rm_304 : kFe "KeyScreenModel" 304 9 31 := kFe.mk T_Rm_304 (fun _ => rfl) (fun _ => ⟨rfl, ⟨_, _, _, rfl, rfl⟩⟩) (fun h => absurd h (by decide)) (fun h => absurd h (by decide))
theorem T_Rm_337 : kFL "KeyScreenModel" 337 9 39 42 (.int) := ⟨_, T_Rm, t_Rm, rfl, by decide, in_Rm, (kmem (i := 966) (by decide +kernel) (by decide +kernel)), ok_Rm, nm_Rm, rfl⟩
theorem U_Rm_337 : kFe "KeyScreenModel" 337 9 39 := kFe.mk T_Rm_337 (fun _ => rfl) (fun _ => ⟨rfl, ⟨_, _, _, rfl, rfl⟩⟩) (fun h => absurd h (by decide)) (fun h => absurd h (by decide))
def F_Rm : Nat → Option (Nat × Nat) := fun idx => ([(7, 9, 0), (13, 9, 1), (16, 9, 2), (19, 9, 3), (22, 9, 4), (25, 9, 11), (28, 9, 13), (31, 9, 19), (34, 9, 24), (37, 9, 25), (40, 9, 26), (43, 9, 27), (47, 9, 32), (50, 9, 33), (53, 9, 35), (56, 9, 36), (59, 9, 40), (62, 9, 41), (65, 9, 37), (75, 9, 5), (78, 9, 6), (82, 9, 7), (85, 9, 14), (88, 9, 34), (91, 9, 38), (97, 9, 8), (100, 9, 9), (103, 9, 10), (106, 9, 12), (132, 9, 15), (158, 9, 21), (161, 9, 20), (168, 9, 16), (171, 9, 17), (201, 9, 18), (238, 9, 23), (241, 9, 22), (243, 9, 28), (246, 9, 30), (252, 9, 29), (304, 9, 31), (337, 9, 39)] : List (Nat × Nat × Nat)).lookup idx
theorem hF_Rm : kFok "KeyScreenModel" F_Rm := kFok_of (List.forall_mem_cons.mpr ⟨U_Rm_7, (List.forall_mem_cons.mpr ⟨U_Rm_13, (List.forall_mem_cons.mpr ⟨U_Rm_16, (List.forall_mem_cons.mpr ⟨U_Rm_19, (List.forall_mem_cons.mpr ⟨U_Rm_22, (List.forall_mem_cons.mpr ⟨U_Rm_25, (List.forall_mem_cons.mpr ⟨U_Rm_28, (List.forall_mem_cons.mpr ⟨U_Rm_31, (List.forall_mem_cons.mpr ⟨U_Rm_34, (List.forall_mem_cons.mpr ⟨U_Rm_37, (List.forall_mem_cons.mpr ⟨U_Rm_40, (List.forall_mem_cons.mpr ⟨U_Rm_43, (List.forall_mem_cons.mpr ⟨U_Rm_47, (List.forall_mem_cons.mpr ⟨U_Rm_50, (List.forall_mem_cons.mpr ⟨U_Rm_53, (List.forall_mem_cons.mpr ⟨U_Rm_56, (List.forall_mem_cons.mpr ⟨U_Rm_59, (List.forall_mem_cons.mpr ⟨U_Rm_62, (List.forall_mem_cons.mpr ⟨U_Rm_65, (List.forall_mem_cons.mpr ⟨U_Rm_75, (List.forall_mem_cons.mpr ⟨U_Rm_78, (List.forall_mem_cons.mpr ⟨U_Rm_82, (List.forall_mem_cons.mpr ⟨U_Rm_85, (List.forall_mem_cons.mpr ⟨U_Rm_88, (List.forall_mem_cons.mpr ⟨U_Rm_91, (List.forall_mem_cons.mpr ⟨U_Rm_97, (List.forall_mem_cons.mpr ⟨U_Rm_100, (List.forall_mem_cons.mpr ⟨U_Rm_103, (List.forall_mem_cons.mpr ⟨U_Rm_106, (List.forall_mem_cons.mpr ⟨U_Rm_132, (List.forall_mem_cons.mpr ⟨U_Rm_158, (List.forall_mem_cons.mpr ⟨U_Rm_161, (List.forall_mem_cons.mpr ⟨U_Rm_168, (List.forall_mem_cons.mpr ⟨U_Rm_171, (List.forall_mem_cons.mpr ⟨U_Rm_201, (List.forall_mem_cons.mpr ⟨U_Rm_238, (List.forall_mem_cons.mpr ⟨U_Rm_241, (List.forall_mem_cons.mpr ⟨U_Rm_243, (List.forall_mem_cons.mpr ⟨U_Rm_246, (List.forall_mem_cons.mpr ⟨U_Rm_252, (List.forall_mem_cons.mpr ⟨U_Rm_304, (List.forall_mem_cons.mpr ⟨U_Rm_337, (fun _ h => absurd h List.not_mem_nil)⟩)⟩)⟩)⟩)⟩)⟩)⟩)⟩)⟩)⟩)⟩)⟩)⟩)⟩)⟩)⟩)⟩)⟩)⟩)⟩)⟩)⟩)⟩)⟩)⟩)⟩)⟩)⟩)⟩)⟩)⟩)⟩)⟩)⟩)⟩)⟩)⟩)⟩)⟩)⟩)⟩)⟩)
theorem c_Rm_69 : kCV "KeyScreenModel" 69 y_Rm_blank m_Rm_blank 9 0 := ⟨⟨cd_Rm_blank, (kmem (i := 915) (by decide +kernel) (by decide +kernel)), (kmem (i := 917) (by decide +kernel) (by decide +kernel)), (kmem (i := 39) (by decide +kernel) (by decide +kernel)), (kmem (i := 115) (by decide +kernel) (by decide +kernel))⟩, by decide +kernel, ⟨_, _, rfl, fun _ => rfl⟩⟩
theorem c_Rm_72 : kCV "KeyScreenModel" 72 y_Rm_reset m_Rm_reset 9 0 := ⟨⟨cd_Rm_reset, (kmem (i := 919) (by decide +kernel) (by decide +kernel)), (kmem (i := 921) (by decide +kernel) (by decide +kernel)), (kmem (i := 40) (by decide +kernel) (by decide +kernel)), (kmem (i := 115) (by decide +kernel) (by decide +kernel))⟩, by decide +kernel, ⟨_, _, rfl, fun _ => rfl⟩⟩
theorem c_Rm_94 : kCV "KeyScreenModel" 94 y_Rm_drop m_Rm_drop 9 0 := ⟨⟨cd_Rm_drop, (kmem (i := 923) (by decide +kernel) (by decide +kernel)), (kmem (i := 925) (by decide +kernel) (by decide +kernel)), (kmem (i := 41) (by decide +kernel) (by decide +kernel)), (kmem (i := 115) (by decide +kernel) (by decide +kernel))⟩, by decide +kernel, ⟨_, _, rfl, fun _ => rfl⟩⟩
theorem c_Rm_109 : kCV "KeyScreenModel" 109 y_Rm_copyLine m_Rm_copyLine 9 4 := ⟨⟨cd_Rm_copyLine, (kmem (i := 1074) (by decide +kernel) (by decide +kernel)), (kmem (i := 1076) (by decide +kernel) (by decide +kernel)), (kmem (i := 46) (by decide +kernel) (by decide +kernel)), (kmem (i := 115) (by decide +kernel) (by decide +kernel))⟩, by decide +kernel, ⟨_, _, rfl, fun _ => rfl⟩⟩
theorem c_Rm_113 : kCV "KeyScreenModel" 113 y_Rm_at m_Rm_at 9 2 := ⟨⟨cd_Rm_at, (kmem (i := 1098) (by decide +kernel) (by decide +kernel)), (kmem (i := 1100) (by decide +kernel) (by decide +kernel)), (kmem (i := 52) (by decide +kernel) (by decide +kernel)), (kmem (i := 115) (by decide +kernel) (by decide +kernel))⟩, by decide +kernel, ⟨_, _, rfl, fun _ => rfl⟩⟩
theorem c_Rm_117 : kCV "KeyScreenModel" 117 y_Rm_copyText m_Rm_copyText 9 2 := ⟨⟨cd_Rm_copyText, (kmem (i := 1070) (by decide +kernel) (by decide +kernel)), (kmem (i := 1072) (by decide +kernel) (by decide +kernel)), (kmem (i := 45) (by decide +kernel) (by decide +kernel)), (kmem (i := 115) (by decide +kernel) (by decide +kernel))⟩, by decide +kernel, ⟨_, _, rfl, fun _ => rfl⟩⟩
theorem c_Rm_121 : kCV "KeyScreenModel" 121 y_Rm_period m_Rm_period 9 0 := ⟨⟨cd_Rm_period, (kmem (i := 1058) (by decide +kernel) (by decide +kernel)), (kmem (i := 1060) (by decide +kernel) (by decide +kernel)), (kmem (i := 42) (by decide +kernel) (by decide +kernel)), (kmem (i := 115) (by decide +kernel) (by decide +kernel))⟩, by decide +kernel, ⟨_, _, rfl, fun _ => rfl⟩⟩
theorem c_Rm_125 : kCV "KeyScreenModel" 125 y_Rm_work m_Rm_work 9 1 := ⟨⟨cd_Rm_work, (kmem (i := 1062) (by decide +kernel) (by decide +kernel)), (kmem (i := 1064) (by decide +kernel) (by decide +kernel)), (kmem (i := 43) (by decide +kernel) (by decide +kernel)), (kmem (i := 115) (by decide +kernel) (by decide +kernel))⟩, by decide +kernel, ⟨_, _, rfl, fun _ => rfl⟩⟩
theorem c_Rm_129 : kCV "KeyScreenModel" 129 y_Rm_draw m_Rm_draw 9 0 := ⟨⟨cd_Rm_draw, (kmem (i := 1282) (by decide +kernel) (by decide +kernel)), (kmem (i := 1284) (by decide +kernel) (by decide +kernel)), (kmem (i := 98) (by decide +kernel) (by decide +kernel)), (kmem (i := 115) (by decide +kernel) (by decide +kernel))⟩, by decide +kernel, ⟨_, _, rfl, fun _ => rfl⟩⟩
theorem c_Rm_135 : kCV "KeyScreenModel" 135 y_Rm_inPrompt m_Rm_inPrompt 9 1 := ⟨⟨cd_Rm_inPrompt, (kmem (i := 1066) (by decide +kernel) (by decide +kernel)), (kmem (i := 1068) (by decide +kernel) (by decide +kernel)), (kmem (i := 44) (by decide +kernel) (by decide +kernel)), (kmem (i := 115) (by decide +kernel) (by decide +kernel))⟩, by decide +kernel, ⟨_, _, rfl, fun _ => rfl⟩⟩
theorem c_Rm_138 : kCV "KeyScreenModel" 138 y_Rm_insert m_Rm_insert 9 1 := ⟨⟨cd_Rm_insert, (kmem (i := 1210) (by decide +kernel) (by decide +kernel)), (kmem (i := 1212) (by decide +kernel) (by decide +kernel)), (kmem (i := 80) (by decide +kernel) (by decide +kernel)), (kmem (i := 115) (by decide +kernel) (by decide +kernel))⟩, by decide +kernel, ⟨_, _, rfl, fun _ => rfl⟩⟩
theorem c_Rm_142 : kCV "KeyScreenModel" 142 y_Rm_keep m_Rm_keep 9 1 := ⟨⟨cd_Rm_keep, (kmem (i := 1230) (by decide +kernel) (by decide +kernel)), (kmem (i := 1232) (by decide +kernel) (by decide +kernel)), (kmem (i := 85) (by decide +kernel) (by decide +kernel)), (kmem (i := 115) (by decide +kernel) (by decide +kernel))⟩, by decide +kernel, ⟨_, _, rfl, fun _ => rfl⟩⟩
theorem c_Rm_146 : kCV "KeyScreenModel" 146 y_Rm_command m_Rm_command 9 1 := ⟨⟨cd_Rm_command, (kmem (i := 1234) (by decide +kernel) (by decide +kernel)), (kmem (i := 1236) (by decide +kernel) (by decide +kernel)), (kmem (i := 86) (by decide +kernel) (by decide +kernel)), (kmem (i := 115) (by decide +kernel) (by decide +kernel))⟩, by decide +kernel, ⟨_, _, rfl, fun _ => rfl⟩⟩
theorem c_Rm_149 : kCV "KeyScreenModel" 149 y_Rm_changed m_Rm_changed 9 0 := ⟨⟨cd_Rm_changed, (kmem (i := 1202) (by decide +kernel) (by decide +kernel)), (kmem (i := 1204) (by decide +kernel) (by decide +kernel)), (kmem (i := 78) (by decide +kernel) (by decide +kernel)), (kmem (i := 115) (by decide +kernel) (by decide +kernel))⟩, by decide +kernel, ⟨_, _, rfl, fun _ => rfl⟩⟩
theorem c_Rm_152 : kCV "KeyScreenModel" 152 y_Rm_clip m_Rm_clip 9 0 := ⟨⟨cd_Rm_clip, (kmem (i := 1206) (by decide +kernel) (by decide +kernel)), (kmem (i := 1208) (by decide +kernel) (by decide +kernel)), (kmem (i := 79) (by decide +kernel) (by decide +kernel)), (kmem (i := 115) (by decide +kernel) (by decide +kernel))⟩, by decide +kernel, ⟨_, _, rfl, fun _ => rfl⟩⟩
theorem c_Rm_155 : kCV "KeyScreenModel" 155 y_Rm_operate m_Rm_operate 9 2 := ⟨⟨cd_Rm_operate, (kmem (i := 1238) (by decide +kernel) (by decide +kernel)), (kmem (i := 1240) (by decide +kernel) (by decide +kernel)), (kmem (i := 87) (by decide +kernel) (by decide +kernel)), (kmem (i := 115) (by decide +kernel) (by decide +kernel))⟩, by decide +kernel, ⟨_, _, rfl, fun _ => rfl⟩⟩
theorem c_Rm_164 : kCV "KeyScreenModel" 164 y_Rm_motion m_Rm_motion 9 2 := ⟨⟨cd_Rm_motion, (kmem (i := 1254) (by decide +kernel) (by decide +kernel)), (kmem (i := 1256) (by decide +kernel) (by decide +kernel)), (kmem (i := 91) (by decide +kernel) (by decide +kernel)), (kmem (i := 115) (by decide +kernel) (by decide +kernel))⟩, by decide +kernel, ⟨_, _, rfl, fun _ => rfl⟩⟩
theorem c_Rm_174 : kCV "KeyScreenModel" 174 y_Rm_place m_Rm_place 9 2 := ⟨⟨cd_Rm_place, (kmem (i := 1106) (by decide +kernel) (by decide +kernel)), (kmem (i := 1108) (by decide +kernel) (by decide +kernel)), (kmem (i := 54) (by decide +kernel) (by decide +kernel)), (kmem (i := 115) (by decide +kernel) (by decide +kernel))⟩, by decide +kernel, ⟨_, _, rfl, fun _ => rfl⟩⟩
theorem c_Rm_177 : kCV "KeyScreenModel" 177 y_Rm_simple m_Rm_simple 9 1 := ⟨⟨cd_Rm_simple, (kmem (i := 1270) (by decide +kernel) (by decide +kernel)), (kmem (i := 1272) (by decide +kernel) (by decide +kernel)), (kmem (i := 95) (by decide +kernel) (by decide +kernel)), (kmem (i := 115) (by decide +kernel) (by decide +kernel))⟩, by decide +kernel, ⟨_, _, rfl, fun _ => rfl⟩⟩
theorem c_Rm_180 : kCV "KeyScreenModel" 180 y_Rm_kindOf m_Rm_kindOf 9 1 := ⟨⟨cd_Rm_kindOf, (kmem (i := 1266) (by decide +kernel) (by decide +kernel)), (kmem (i := 1268) (by decide +kernel) (by decide +kernel)), (kmem (i := 94) (by decide +kernel) (by decide +kernel)), (kmem (i := 115) (by decide +kernel) (by decide +kernel))⟩, by decide +kernel, ⟨_, _, rfl, fun _ => rfl⟩⟩
theorem c_Rm_183 : kCV "KeyScreenModel" 183 y_Rm_stop m_Rm_stop 9 2 := ⟨⟨cd_Rm_stop, (kmem (i := 1262) (by decide +kernel) (by decide +kernel)), (kmem (i := 1264) (by decide +kernel) (by decide +kernel)), (kmem (i := 93) (by decide +kernel) (by decide +kernel)), (kmem (i := 115) (by decide +kernel) (by decide +kernel))⟩, by decide +kernel, ⟨_, _, rfl, fun _ => rfl⟩⟩
theorem c_Rm_186 : kCV "KeyScreenModel" 186 y_Rm_toStop m_Rm_toStop 9 2 := ⟨⟨cd_Rm_toStop, (kmem (i := 1258) (by decide +kernel) (by decide +kernel)), (kmem (i := 1260) (by decide +kernel) (by decide +kernel)), (kmem (i := 92) (by decide +kernel) (by decide +kernel)), (kmem (i := 115) (by decide +kernel) (by decide +kernel))⟩, by decide +kernel, ⟨_, _, rfl, fun _ => rfl⟩⟩
theorem c_Rm_189 : kCV "KeyScreenModel" 189 y_Rm_wholeLines m_Rm_wholeLines 9 2 := ⟨⟨cd_Rm_wholeLines, (kmem (i := 1242) (by decide +kernel) (by decide +kernel)), (kmem (i := 1244) (by decide +kernel) (by decide +kernel)), (kmem (i := 88) (by decide +kernel) (by decide +kernel)), (kmem (i := 115) (by decide +kernel) (by decide +kernel))⟩, by decide +kernel, ⟨_, _, rfl, fun _ => rfl⟩⟩
theorem c_Rm_192 : kCV "KeyScreenModel" 192 y_Rm_characters m_Rm_characters 9 2 := ⟨⟨cd_Rm_characters, (kmem (i := 1250) (by decide +kernel) (by decide +kernel)), (kmem (i := 1252) (by decide +kernel) (by decide +kernel)), (kmem (i := 90) (by decide +kernel) (by decide +kernel)), (kmem (i := 115) (by decide +kernel) (by decide +kernel))⟩, by decide +kernel, ⟨_, _, rfl, fun _ => rfl⟩⟩
theorem c_Rm_195 : kCV "KeyScreenModel" 195 y_Rm_removeAt m_Rm_removeAt 9 2 := ⟨⟨cd_Rm_removeAt, (kmem (i := 1214) (by decide +kernel) (by decide +kernel)), (kmem (i := 1216) (by decide +kernel) (by decide +kernel)), (kmem (i := 81) (by decide +kernel) (by decide +kernel)), (kmem (i := 115) (by decide +kernel) (by decide +kernel))⟩, by decide +kernel, ⟨_, _, rfl, fun _ => rfl⟩⟩
theorem c_Rm_198 : kCV "KeyScreenModel" 198 y_Rm_beginInsert m_Rm_beginInsert 9 2 := ⟨⟨cd_Rm_beginInsert, (kmem (i := 1246) (by decide +kernel) (by decide +kernel)), (kmem (i := 1248) (by decide +kernel) (by decide +kernel)), (kmem (i := 89) (by decide +kernel) (by decide +kernel)), (kmem (i := 115) (by decide +kernel) (by decide +kernel))⟩, by decide +kernel, ⟨_, _, rfl, fun _ => rfl⟩⟩
theorem c_Rm_204 : kCV "KeyScreenModel" 204 y_Rm_closeLine m_Rm_closeLine 9 1 := ⟨⟨cd_Rm_closeLine, (kmem (i := 1174) (by decide +kernel) (by decide +kernel)), (kmem (i := 1176) (by decide +kernel) (by decide +kernel)), (kmem (i := 71) (by decide +kernel) (by decide +kernel)), (kmem (i := 115) (by decide +kernel) (by decide +kernel))⟩, by decide +kernel, ⟨_, _, rfl, fun _ => rfl⟩⟩
theorem c_Rm_207 : kCV "KeyScreenModel" 207 y_Rm_openLine m_Rm_openLine 9 1 := ⟨⟨cd_Rm_openLine, (kmem (i := 1178) (by decide +kernel) (by decide +kernel)), (kmem (i := 1180) (by decide +kernel) (by decide +kernel)), (kmem (i := 72) (by decide +kernel) (by decide +kernel)), (kmem (i := 115) (by decide +kernel) (by decide +kernel))⟩, by decide +kernel, ⟨_, _, rfl, fun _ => rfl⟩⟩
theorem c_Rm_210 : kCV "KeyScreenModel" 210 y_Rm_hold m_Rm_hold 9 2 := ⟨⟨cd_Rm_hold, (kmem (i := 1166) (by decide +kernel) (by decide +kernel)), (kmem (i := 1168) (by decide +kernel) (by decide +kernel)), (kmem (i := 69) (by decide +kernel) (by decide +kernel)), (kmem (i := 115) (by decide +kernel) (by decide +kernel))⟩, by decide +kernel, ⟨_, _, rfl, fun _ => rfl⟩⟩
theorem c_Rm_213 : kCV "KeyScreenModel" 213 y_Rm_takeLines m_Rm_takeLines 9 2 := ⟨⟨cd_Rm_takeLines, (kmem (i := 1170) (by decide +kernel) (by decide +kernel)), (kmem (i := 1172) (by decide +kernel) (by decide +kernel)), (kmem (i := 70) (by decide +kernel) (by decide +kernel)), (kmem (i := 115) (by decide +kernel) (by decide +kernel))⟩, by decide +kernel, ⟨_, _, rfl, fun _ => rfl⟩⟩
theorem c_Rm_216 : kCV "KeyScreenModel" 216 y_Rm_putCharacters m_Rm_putCharacters 9 1 := ⟨⟨cd_Rm_putCharacters, (kmem (i := 1274) (by decide +kernel) (by decide +kernel)), (kmem (i := 1276) (by decide +kernel) (by decide +kernel)), (kmem (i := 96) (by decide +kernel) (by decide +kernel)), (kmem (i := 115) (by decide +kernel) (by decide +kernel))⟩, by decide +kernel, ⟨_, _, rfl, fun _ => rfl⟩⟩
theorem c_Rm_219 : kCV "KeyScreenModel" 219 y_Rm_putLines m_Rm_putLines 9 1 := ⟨⟨cd_Rm_putLines, (kmem (i := 1278) (by decide +kernel) (by decide +kernel)), (kmem (i := 1280) (by decide +kernel) (by decide +kernel)), (kmem (i := 97) (by decide +kernel) (by decide +kernel)), (kmem (i := 115) (by decide +kernel) (by decide +kernel))⟩, by decide +kernel, ⟨_, _, rfl, fun _ => rfl⟩⟩
theorem c_Rm_222 : kCV "KeyScreenModel" 222 y_Rm_blanks m_Rm_blanks 9 1 := ⟨⟨cd_Rm_blanks, (kmem (i := 1222) (by decide +kernel) (by decide +kernel)), (kmem (i := 1224) (by decide +kernel) (by decide +kernel)), (kmem (i := 83) (by decide +kernel) (by decide +kernel)), (kmem (i := 115) (by decide +kernel) (by decide +kernel))⟩, by decide +kernel, ⟨_, _, rfl, fun _ => rfl⟩⟩
theorem c_Rm_225 : kCV "KeyScreenModel" 225 y_Rm_insertAt m_Rm_insertAt 9 3 := ⟨⟨cd_Rm_insertAt, (kmem (i := 1226) (by decide +kernel) (by decide +kernel)), (kmem (i := 1228) (by decide +kernel) (by decide +kernel)), (kmem (i := 84) (by decide +kernel) (by decide +kernel)), (kmem (i := 115) (by decide +kernel) (by decide +kernel))⟩, by decide +kernel, ⟨_, _, rfl, fun _ => rfl⟩⟩
theorem c_Rm_229 : kCV "KeyScreenModel" 229 y_Rm_part m_Rm_part 9 2 := ⟨⟨cd_Rm_part, (kmem (i := 1218) (by decide +kernel) (by decide +kernel)), (kmem (i := 1220) (by decide +kernel) (by decide +kernel)), (kmem (i := 82) (by decide +kernel) (by decide +kernel)), (kmem (i := 115) (by decide +kernel) (by decide +kernel))⟩, by decide +kernel, ⟨_, _, rfl, fun _ => rfl⟩⟩
theorem c_Rm_232 : kCV "KeyScreenModel" 232 y_Rm_search m_Rm_search 9 0 := ⟨⟨cd_Rm_search, (kmem (i := 1078) (by decide +kernel) (by decide +kernel)), (kmem (i := 1080) (by decide +kernel) (by decide +kernel)), (kmem (i := 47) (by decide +kernel) (by decide +kernel)), (kmem (i := 115) (by decide +kernel) (by decide +kernel))⟩, by decide +kernel, ⟨_, _, rfl, fun _ => rfl⟩⟩
theorem c_Rm_235 : kCV "KeyScreenModel" 235 y_Rm_line m_Rm_line 9 0 := ⟨⟨cd_Rm_line, (kmem (i := 1110) (by decide +kernel) (by decide +kernel)), (kmem (i := 1112) (by decide +kernel) (by decide +kernel)), (kmem (i := 55) (by decide +kernel) (by decide +kernel)), (kmem (i := 115) (by decide +kernel) (by decide +kernel))⟩, by decide +kernel, ⟨_, _, rfl, fun _ => rfl⟩⟩
theorem c_Rm_249 : kCV "KeyScreenModel" 249 y_Rm_seen m_Rm_seen 9 1 := ⟨⟨cd_Rm_seen, (kmem (i := 1086) (by decide +kernel) (by decide +kernel)), (kmem (i := 1088) (by decide +kernel) (by decide +kernel)), (kmem (i := 49) (by decide +kernel) (by decide +kernel)), (kmem (i := 115) (by decide +kernel) (by decide +kernel))⟩, by decide +kernel, ⟨_, _, rfl, fun _ => rfl⟩⟩
theorem c_Rm_255 : kCV "KeyScreenModel" 255 y_Rm_atom m_Rm_atom 9 2 := ⟨⟨cd_Rm_atom, (kmem (i := 1090) (by decide +kernel) (by decide +kernel)), (kmem (i := 1092) (by decide +kernel) (by decide +kernel)), (kmem (i := 50) (by decide +kernel) (by decide +kernel)), (kmem (i := 115) (by decide +kernel) (by decide +kernel))⟩, by decide +kernel, ⟨_, _, rfl, fun _ => rfl⟩⟩
theorem c_Rm_258 : kCV "KeyScreenModel" 258 y_Rm_takes m_Rm_takes 9 2 := ⟨⟨cd_Rm_takes, (kmem (i := 1102) (by decide +kernel) (by decide +kernel)), (kmem (i := 1104) (by decide +kernel) (by decide +kernel)), (kmem (i := 53) (by decide +kernel) (by decide +kernel)), (kmem (i := 115) (by decide +kernel) (by decide +kernel))⟩, by decide +kernel, ⟨_, _, rfl, fun _ => rfl⟩⟩
theorem c_Rm_261 : kCV "KeyScreenModel" 261 y_Rm_match m_Rm_match 9 2 := ⟨⟨cd_Rm_match, (kmem (i := 1094) (by decide +kernel) (by decide +kernel)), (kmem (i := 1096) (by decide +kernel) (by decide +kernel)), (kmem (i := 51) (by decide +kernel) (by decide +kernel)), (kmem (i := 115) (by decide +kernel) (by decide +kernel))⟩, by decide +kernel, ⟨_, _, rfl, fun _ => rfl⟩⟩
theorem c_Rm_264 : kCV "KeyScreenModel" 264 y_Rm_pattern m_Rm_pattern 9 2 := ⟨⟨cd_Rm_pattern, (kmem (i := 1082) (by decide +kernel) (by decide +kernel)), (kmem (i := 1084) (by decide +kernel) (by decide +kernel)), (kmem (i := 48) (by decide +kernel) (by decide +kernel)), (kmem (i := 115) (by decide +kernel) (by decide +kernel))⟩, by decide +kernel, ⟨_, _, rfl, fun _ => rfl⟩⟩
theorem c_Rm_267 : kCV "KeyScreenModel" 267 y_Rm_digit m_Rm_digit 9 0 := ⟨⟨cd_Rm_digit, (kmem (i := 1122) (by decide +kernel) (by decide +kernel)), (kmem (i := 1124) (by decide +kernel) (by decide +kernel)), (kmem (i := 58) (by decide +kernel) (by decide +kernel)), (kmem (i := 115) (by decide +kernel) (by decide +kernel))⟩, by decide +kernel, ⟨_, _, rfl, fun _ => rfl⟩⟩
theorem c_Rm_271 : kCV "KeyScreenModel" 271 y_Rm_number m_Rm_number 9 0 := ⟨⟨cd_Rm_number, (kmem (i := 1130) (by decide +kernel) (by decide +kernel)), (kmem (i := 1132) (by decide +kernel) (by decide +kernel)), (kmem (i := 60) (by decide +kernel) (by decide +kernel)), (kmem (i := 115) (by decide +kernel) (by decide +kernel))⟩, by decide +kernel, ⟨_, _, rfl, fun _ => rfl⟩⟩
theorem c_Rm_273 : kCV "KeyScreenModel" 273 y_Rm_take m_Rm_take 9 1 := ⟨⟨cd_Rm_take, (kmem (i := 1114) (by decide +kernel) (by decide +kernel)), (kmem (i := 1116) (by decide +kernel) (by decide +kernel)), (kmem (i := 56) (by decide +kernel) (by decide +kernel)), (kmem (i := 115) (by decide +kernel) (by decide +kernel))⟩, by decide +kernel, ⟨_, _, rfl, fun _ => rfl⟩⟩
theorem c_Rm_276 : kCV "KeyScreenModel" 276 y_Rm_delimited m_Rm_delimited 9 0 := ⟨⟨cd_Rm_delimited, (kmem (i := 1134) (by decide +kernel) (by decide +kernel)), (kmem (i := 1136) (by decide +kernel) (by decide +kernel)), (kmem (i := 61) (by decide +kernel) (by decide +kernel)), (kmem (i := 115) (by decide +kernel) (by decide +kernel))⟩, by decide +kernel, ⟨_, _, rfl, fun _ => rfl⟩⟩
theorem c_Rm_279 : kCV "KeyScreenModel" 279 y_Rm_below m_Rm_below 9 1 := ⟨⟨cd_Rm_below, (kmem (i := 1138) (by decide +kernel) (by decide +kernel)), (kmem (i := 1140) (by decide +kernel) (by decide +kernel)), (kmem (i := 62) (by decide +kernel) (by decide +kernel)), (kmem (i := 115) (by decide +kernel) (by decide +kernel))⟩, by decide +kernel, ⟨_, _, rfl, fun _ => rfl⟩⟩
theorem c_Rm_282 : kCV "KeyScreenModel" 282 y_Rm_somewhere m_Rm_somewhere 9 1 := ⟨⟨cd_Rm_somewhere, (kmem (i := 1142) (by decide +kernel) (by decide +kernel)), (kmem (i := 1144) (by decide +kernel) (by decide +kernel)), (kmem (i := 63) (by decide +kernel) (by decide +kernel)), (kmem (i := 115) (by decide +kernel) (by decide +kernel))⟩, by decide +kernel, ⟨_, _, rfl, fun _ => rfl⟩⟩
theorem c_Rm_285 : kCV "KeyScreenModel" 285 y_Rm_addressed m_Rm_addressed 9 0 := ⟨⟨cd_Rm_addressed, (kmem (i := 1118) (by decide +kernel) (by decide +kernel)), (kmem (i := 1120) (by decide +kernel) (by decide +kernel)), (kmem (i := 57) (by decide +kernel) (by decide +kernel)), (kmem (i := 115) (by decide +kernel) (by decide +kernel))⟩, by decide +kernel, ⟨_, _, rfl, fun _ => rfl⟩⟩
theorem c_Rm_288 : kCV "KeyScreenModel" 288 y_Rm_address m_Rm_address 9 1 := ⟨⟨cd_Rm_address, (kmem (i := 1126) (by decide +kernel) (by decide +kernel)), (kmem (i := 1128) (by decide +kernel) (by decide +kernel)), (kmem (i := 59) (by decide +kernel) (by decide +kernel)), (kmem (i := 115) (by decide +kernel) (by decide +kernel))⟩, by decide +kernel, ⟨_, _, rfl, fun _ => rfl⟩⟩
theorem c_Rm_291 : kCV "KeyScreenModel" 291 y_Rm_carryOut m_Rm_carryOut 9 2 := ⟨⟨cd_Rm_carryOut, (kmem (i := 1146) (by decide +kernel) (by decide +kernel)), (kmem (i := 1148) (by decide +kernel) (by decide +kernel)), (kmem (i := 64) (by decide +kernel) (by decide +kernel)), (kmem (i := 115) (by decide +kernel) (by decide +kernel))⟩, by decide +kernel, ⟨_, _, rfl, fun _ => rfl⟩⟩
theorem c_Rm_294 : kCV "KeyScreenModel" 294 y_Rm_ended m_Rm_ended 9 0 := ⟨⟨cd_Rm_ended, (kmem (i := 1150) (by decide +kernel) (by decide +kernel)), (kmem (i := 1152) (by decide +kernel) (by decide +kernel)), (kmem (i := 65) (by decide +kernel) (by decide +kernel)), (kmem (i := 115) (by decide +kernel) (by decide +kernel))⟩, by decide +kernel, ⟨_, _, rfl, fun _ => rfl⟩⟩
theorem c_Rm_297 : kCV "KeyScreenModel" 297 y_Rm_job m_Rm_job 9 3 := ⟨⟨cd_Rm_job, (kmem (i := 1154) (by decide +kernel) (by decide +kernel)), (kmem (i := 1156) (by decide +kernel) (by decide +kernel)), (kmem (i := 66) (by decide +kernel) (by decide +kernel)), (kmem (i := 115) (by decide +kernel) (by decide +kernel))⟩, by decide +kernel, ⟨_, _, rfl, fun _ => rfl⟩⟩
theorem c_Rm_301 : kCV "KeyScreenModel" 301 y_Rm_all m_Rm_all 9 2 := ⟨⟨cd_Rm_all, (kmem (i := 1158) (by decide +kernel) (by decide +kernel)), (kmem (i := 1160) (by decide +kernel) (by decide +kernel)), (kmem (i := 67) (by decide +kernel) (by decide +kernel)), (kmem (i := 115) (by decide +kernel) (by decide +kernel))⟩, by decide +kernel, ⟨_, _, rfl, fun _ => rfl⟩⟩
theorem c_Rm_307 : kCV "KeyScreenModel" 307 y_Rm_one m_Rm_one 9 2 := ⟨⟨cd_Rm_one, (kmem (i := 1162) (by decide +kernel) (by decide +kernel)), (kmem (i := 1164) (by decide +kernel) (by decide +kernel)), (kmem (i := 68) (by decide +kernel) (by decide +kernel)), (kmem (i := 115) (by decide +kernel) (by decide +kernel))⟩, by decide +kernel, ⟨_, _, rfl, fun _ => rfl⟩⟩
theorem c_Rm_310 : kCV "KeyScreenModel" 310 y_Rm_exchange m_Rm_exchange 9 2 := ⟨⟨cd_Rm_exchange, (kmem (i := 1182) (by decide +kernel) (by decide +kernel)), (kmem (i := 1184) (by decide +kernel) (by decide +kernel)), (kmem (i := 73) (by decide +kernel) (by decide +kernel)), (kmem (i := 115) (by decide +kernel) (by decide +kernel))⟩, by decide +kernel, ⟨_, _, rfl, fun _ => rfl⟩⟩
theorem c_Rm_313 : kCV "KeyScreenModel" 313 y_Rm_rewrite m_Rm_rewrite 9 4 := ⟨⟨cd_Rm_rewrite, (kmem (i := 1186) (by decide +kernel) (by decide +kernel)), (kmem (i := 1188) (by decide +kernel) (by decide +kernel)), (kmem (i := 74) (by decide +kernel) (by decide +kernel)), (kmem (i := 115) (by decide +kernel) (by decide +kernel))⟩, by decide +kernel, ⟨_, _, rfl, fun _ => rfl⟩⟩
theorem c_Rm_317 : kCV "KeyScreenModel" 317 y_Rm_append m_Rm_append 9 4 := ⟨⟨cd_Rm_append, (kmem (i := 1190) (by decide +kernel) (by decide +kernel)), (kmem (i := 1192) (by decide +kernel) (by decide +kernel)), (kmem (i := 75) (by decide +kernel) (by decide +kernel)), (kmem (i := 115) (by decide +kernel) (by decide +kernel))⟩, by decide +kernel, ⟨_, _, rfl, fun _ => rfl⟩⟩
theorem c_Rm_321 : kCV "KeyScreenModel" 321 y_Rm_replace m_Rm_replace 9 6 := ⟨⟨cd_Rm_replace, (kmem (i := 1198) (by decide +kernel) (by decide +kernel)), (kmem (i := 1200) (by decide +kernel) (by decide +kernel)), (kmem (i := 77) (by decide +kernel) (by decide +kernel)), (kmem (i := 115) (by decide +kernel) (by decide +kernel))⟩, by decide +kernel, ⟨_, _, rfl, fun _ => rfl⟩⟩
theorem c_Rm_325 : kCV "KeyScreenModel" 325 y_Rm_add m_Rm_add 9 2 := ⟨⟨cd_Rm_add, (kmem (i := 1194) (by decide +kernel) (by decide +kernel)), (kmem (i := 1196) (by decide +kernel) (by decide +kernel)), (kmem (i := 76) (by decide +kernel) (by decide +kernel)), (kmem (i := 115) (by decide +kernel) (by decide +kernel))⟩, by decide +kernel, ⟨_, _, rfl, fun _ => rfl⟩⟩
theorem c_Rm_328 : kCV "KeyScreenModel" 328 y_Rm_rows m_Rm_rows 9 1 := ⟨⟨cd_Rm_rows, (kmem (i := 1290) (by decide +kernel) (by decide +kernel)), (kmem (i := 1292) (by decide +kernel) (by decide +kernel)), (kmem (i := 100) (by decide +kernel) (by decide +kernel)), (kmem (i := 115) (by decide +kernel) (by decide +kernel))⟩, by decide +kernel, ⟨_, _, rfl, fun _ => rfl⟩⟩
theorem c_Rm_331 : kCV "KeyScreenModel" 331 y_Rm_needed m_Rm_needed 9 0 := ⟨⟨cd_Rm_needed, (kmem (i := 1286) (by decide +kernel) (by decide +kernel)), (kmem (i := 1288) (by decide +kernel) (by decide +kernel)), (kmem (i := 99) (by decide +kernel) (by decide +kernel)), (kmem (i := 115) (by decide +kernel) (by decide +kernel))⟩, by decide +kernel, ⟨_, _, rfl, fun _ => rfl⟩⟩
theorem c_Rm_334 : kCV "KeyScreenModel" 334 y_Rm_send m_Rm_send 9 1 := ⟨⟨cd_Rm_send, (kmem (i := 1294) (by decide +kernel) (by decide +kernel)), (kmem (i := 1296) (by decide +kernel) (by decide +kernel)), (kmem (i := 101) (by decide +kernel) (by decide +kernel)), (kmem (i := 115) (by decide +kernel) (by decide +kernel))⟩, by decide +kernel, ⟨_, _, rfl, fun _ => rfl⟩⟩
theorem c_Rm_340 : kCV "KeyScreenModel" 340 y_Rm_character m_Rm_character 9 4 := ⟨⟨cd_Rm_character, (kmem (i := 1326) (by decide +kernel) (by decide +kernel)), (kmem (i := 1328) (by decide +kernel) (by decide +kernel)), (kmem (i := 102) (by decide +kernel) (by decide +kernel)), (kmem (i := 115) (by decide +kernel) (by decide +kernel))⟩, by decide +kernel, ⟨_, _, rfl, fun _ => rfl⟩⟩
def F_Ar : Nat → Option (Nat × Nat) := fun idx => ([] : List (Nat × Nat × Nat)).lookup idx
theorem hF_Ar : kFok "java/util/Arrays" F_Ar := kFok_of (fun _ h => absurd h List.not_mem_nil)
theorem c_Ar_13 : kCS "java/util/Arrays" 13 y_Ar_rangeCheck m_Ar_rangeCheck 3 := ⟨⟨cd_Ar_rangeCheck, (kmem (i := 474) (by decide +kernel) (by decide +kernel)), (kmem (i := 475) (by decide +kernel) (by decide +kernel)), (kmem (i := 109) (by decide +kernel) (by decide +kernel))⟩, by decide +kernel⟩
abbrev dm_Ar_fill2 : Nat × Nat := (0, 0)
abbrev dm_Ar_fill4 : Nat × Nat := (1, 22)
abbrev dm_Ar_rangeCheck : Nat × Nat := (0, 0)
abbrev dm_Cl_append : Nat × Nat := (0, 0)
abbrev dm_Cl_appendNew : Nat × Nat := (1, 24)
abbrev dm_Cl_begin : Nat × Nat := (1, 26)
abbrev dm_Cl_build : Nat × Nat := (2, 50)
abbrev dm_Cl_carryOut : Nat × Nat := (5, 124)
abbrev dm_Cl_change : Nat × Nat := (4, 102)
abbrev dm_Cl_deleteLines : Nat × Nat := (3, 71)
abbrev dm_Cl_exchangeLines : Nat × Nat := (3, 78)
abbrev dm_Cl_here : Nat × Nat := (0, 0)
abbrev dm_Cl_isDigit : Nat × Nat := (0, 0)
abbrev dm_Cl_nextLineWith : Nat × Nat := (2, 48)
abbrev dm_Cl_noteLines : Nat × Nat := (2, 48)
abbrev dm_Cl_readAddress : Nat × Nat := (3, 77)
abbrev dm_Cl_readChange : Nat × Nat := (4, 97)
abbrev dm_Cl_readExchange : Nat × Nat := (3, 77)
abbrev dm_Cl_readPattern : Nat × Nat := (2, 54)
abbrev dm_Cl_readPreserve : Nat × Nat := (0, 0)
abbrev dm_Cl_readRange : Nat × Nat := (4, 99)
abbrev dm_Cl_search : Nat × Nat := (2, 54)
abbrev dm_Cl_takeAllIfNoRange : Nat × Nat := (0, 0)
abbrev dm_De_canPut : Nat × Nat := (1, 21)
abbrev dm_De_dropLines : Nat × Nat := (2, 49)
abbrev dm_De_emptyLines : Nat × Nat := (2, 50)
abbrev dm_De_exchange : Nat × Nat := (2, 47)
abbrev dm_De_holdLetters : Nat × Nat := (2, 50)
abbrev dm_De_holdLines : Nat × Nat := (2, 49)
abbrev dm_De_putLetters : Nat × Nat := (3, 70)
abbrev dm_De_putLines : Nat × Nat := (3, 69)
abbrev dm_De_reset : Nat × Nat := (1, 20)
abbrev dm_Di_addJob : Nat × Nat := (2, 49)
abbrev dm_Di_recover : Nat × Nat := (2, 49)
abbrev dm_Di_writeBlock : Nat × Nat := (2, 47)
abbrev dm_Kb_ask : Nat × Nat := (6, 145)
abbrev dm_Kb_beginChange : Nat × Nat := (2, 47)
abbrev dm_Kb_beginInsert : Nat × Nat := (0, 0)
abbrev dm_Kb_command : Nat × Nat := (6, 136)
abbrev dm_Kb_dropCommand : Nat × Nat := (0, 0)
abbrev dm_Kb_edit : Nat × Nat := (4, 95)
abbrev dm_Kb_insert : Nat × Nat := (5, 116)
abbrev dm_Kb_insertFrom : Nat × Nat := (3, 67)
abbrev dm_Kb_isCountKey : Nat × Nat := (0, 0)
abbrev dm_Kb_isOperator : Nat × Nat := (0, 0)
abbrev dm_Kb_isRepeat : Nat × Nat := (0, 0)
abbrev dm_Kb_openLine : Nat × Nat := (3, 70)
abbrev dm_Kb_operate : Nat × Nat := (4, 94)
abbrev dm_Kb_operateOnLetters : Nat × Nat := (3, 72)
abbrev dm_Kb_operateOnLines : Nat × Nat := (3, 72)
abbrev dm_Kb_partLine : Nat × Nat := (3, 70)
abbrev dm_Kb_plain : Nat × Nat := (5, 114)
abbrev dm_Kb_put : Nat × Nat := (4, 92)
abbrev dm_Kb_repeat : Nat × Nat := (7, 159)
abbrev dm_Kb_reset : Nat × Nat := (1, 20)
abbrev dm_Ke_add : Nat × Nat := (1, 26)
abbrev dm_Ke_copy : Nat × Nat := (1, 26)
abbrev dm_Ke_isFull : Nat × Nat := (0, 0)
abbrev dm_Ke_isTooLong : Nat × Nat := (0, 0)
abbrev dm_Ks_buffer : Nat × Nat := (0, 0)
abbrev dm_Ks_cell : Nat × Nat := (1, 22)
abbrev dm_Ks_crash : Nat × Nat := (4, 93)
abbrev dm_Ks_cursor : Nat × Nat := (0, 0)
abbrev dm_Ks_file : Nat × Nat := (0, 0)
abbrev dm_Ks_held : Nat × Nat := (1, 22)
abbrev dm_Ks_isKey : Nat × Nat := (0, 0)
abbrev dm_Ks_isWidth : Nat × Nat := (0, 0)
abbrev dm_Ks_key : Nat × Nat := (8, 182)
abbrev dm_Ks_length : Nat × Nat := (1, 21)
abbrev dm_Ks_letter : Nat × Nat := (1, 22)
abbrev dm_Ks_lines : Nat × Nat := (0, 0)
abbrev dm_Ks_mode : Nat × Nat := (0, 0)
abbrev dm_Ks_resize : Nat × Nat := (4, 93)
abbrev dm_Ks_sent : Nat × Nat := (0, 0)
abbrev dm_Ks_stored : Nat × Nat := (1, 22)
abbrev dm_Ks_sync : Nat × Nat := (3, 69)
abbrev dm_Ks_top : Nat × Nat := (0, 0)
abbrev dm_Ma_max : Nat × Nat := (0, 0)
abbrev dm_Ma_min : Nat × Nat := (0, 0)
abbrev dm_Mo_isStop : Nat × Nat := (1, 22)
abbrev dm_Mo_kindOf : Nat × Nat := (0, 0)
abbrev dm_Mo_lead : Nat × Nat := (3, 70)
abbrev dm_Mo_place : Nat × Nat := (0, 0)
abbrev dm_Mo_stopBefore : Nat × Nat := (2, 46)
abbrev dm_Mo_stopBehind : Nat × Nat := (2, 46)
abbrev dm_Pa_endOfMatch : Nat × Nat := (1, 23)
abbrev dm_Pa_isEndSign : Nat × Nat := (0, 0)
abbrev dm_Pa_isIn : Nat × Nat := (1, 23)
abbrev dm_Pa_isOver : Nat × Nat := (0, 0)
abbrev dm_Pa_passStars : Nat × Nat := (0, 0)
abbrev dm_Pa_read : Nat × Nat := (1, 30)
abbrev dm_Pa_readSet : Nat × Nat := (0, 0)
abbrev dm_Pa_readSingle : Nat × Nat := (0, 0)
abbrev dm_Pa_step : Nat × Nat := (0, 0)
abbrev dm_Rm_add : Nat × Nat := (0, 0)
abbrev dm_Rm_address : Nat × Nat := (5, 123)
abbrev dm_Rm_addressed : Nat × Nat := (2, 41)
abbrev dm_Rm_all : Nat × Nat := (6, 156)
abbrev dm_Rm_append : Nat × Nat := (1, 22)
abbrev dm_Rm_at : Nat × Nat := (0, 0)
abbrev dm_Rm_atom : Nat × Nat := (1, 21)
abbrev dm_Rm_beginInsert : Nat × Nat := (1, 22)
abbrev dm_Rm_below : Nat × Nat := (4, 100)
abbrev dm_Rm_blank : Nat × Nat := (0, 0)
abbrev dm_Rm_blanks : Nat × Nat := (1, 22)
abbrev dm_Rm_buffer : Nat × Nat := (0, 0)
abbrev dm_Rm_carryOut : Nat × Nat := (7, 184)
abbrev dm_Rm_cell : Nat × Nat := (0, 0)
abbrev dm_Rm_changed : Nat × Nat := (2, 48)
abbrev dm_Rm_character : Nat × Nat := (0, 0)
abbrev dm_Rm_characters : Nat × Nat := (2, 44)
abbrev dm_Rm_clip : Nat × Nat := (0, 0)
abbrev dm_Rm_closeLine : Nat × Nat := (1, 25)
abbrev dm_Rm_command : Nat × Nat := (5, 122)
abbrev dm_Rm_copyLine : Nat × Nat := (0, 0)
abbrev dm_Rm_copyText : Nat × Nat := (1, 25)
abbrev dm_Rm_crash : Nat × Nat := (3, 68)
abbrev dm_Rm_cursor : Nat × Nat := (0, 0)
abbrev dm_Rm_delimited : Nat × Nat := (3, 69)
abbrev dm_Rm_digit : Nat × Nat := (1, 21)
abbrev dm_Rm_draw : Nat × Nat := (2, 43)
abbrev dm_Rm_drop : Nat × Nat := (0, 0)
abbrev dm_Rm_ended : Nat × Nat := (0, 0)
abbrev dm_Rm_exchange : Nat × Nat := (4, 106)
abbrev dm_Rm_file : Nat × Nat := (0, 0)
abbrev dm_Rm_held : Nat × Nat := (1, 24)
abbrev dm_Rm_hold : Nat × Nat := (1, 25)
abbrev dm_Rm_inPrompt : Nat × Nat := (9, 231)
abbrev dm_Rm_insert : Nat × Nat := (3, 71)
abbrev dm_Rm_insertAt : Nat × Nat := (0, 0)
abbrev dm_Rm_job : Nat × Nat := (1, 25)
abbrev dm_Rm_keep : Nat × Nat := (0, 0)
abbrev dm_Rm_key : Nat × Nat := (12, 299)
abbrev dm_Rm_kindOf : Nat × Nat := (0, 0)
abbrev dm_Rm_length : Nat × Nat := (0, 0)
abbrev dm_Rm_letter : Nat × Nat := (1, 24)
abbrev dm_Rm_line : Nat × Nat := (8, 207)
abbrev dm_Rm_lines : Nat × Nat := (0, 0)
abbrev dm_Rm_match : Nat × Nat := (2, 49)
abbrev dm_Rm_mode : Nat × Nat := (0, 0)
abbrev dm_Rm_motion : Nat × Nat := (3, 72)
abbrev dm_Rm_needed : Nat × Nat := (1, 21)
abbrev dm_Rm_number : Nat × Nat := (2, 41)
abbrev dm_Rm_one : Nat × Nat := (5, 134)
abbrev dm_Rm_openLine : Nat × Nat := (1, 25)
abbrev dm_Rm_operate : Nat × Nat := (4, 98)
abbrev dm_Rm_part : Nat × Nat := (2, 47)
abbrev dm_Rm_pattern : Nat × Nat := (2, 46)
abbrev dm_Rm_period : Nat × Nat := (11, 276)
abbrev dm_Rm_place : Nat × Nat := (0, 0)
abbrev dm_Rm_putCharacters : Nat × Nat := (1, 24)
abbrev dm_Rm_putLines : Nat × Nat := (2, 47)
abbrev dm_Rm_removeAt : Nat × Nat := (0, 0)
abbrev dm_Rm_replace : Nat × Nat := (2, 48)
abbrev dm_Rm_reset : Nat × Nat := (1, 20)
abbrev dm_Rm_resize : Nat × Nat := (3, 68)
abbrev dm_Rm_rewrite : Nat × Nat := (3, 77)
abbrev dm_Rm_rows : Nat × Nat := (0, 0)
abbrev dm_Rm_search : Nat × Nat := (3, 77)
abbrev dm_Rm_seen : Nat × Nat := (0, 0)
abbrev dm_Rm_send : Nat × Nat := (0, 0)
abbrev dm_Rm_sent : Nat × Nat := (0, 0)
abbrev dm_Rm_simple : Nat × Nat := (3, 69)
abbrev dm_Rm_somewhere : Nat × Nat := (3, 77)
abbrev dm_Rm_stop : Nat × Nat := (1, 22)
abbrev dm_Rm_stored : Nat × Nat := (1, 24)
abbrev dm_Rm_sync : Nat × Nat := (2, 48)
abbrev dm_Rm_take : Nat × Nat := (1, 21)
abbrev dm_Rm_takeLines : Nat × Nat := (2, 47)
abbrev dm_Rm_takes : Nat × Nat := (1, 21)
abbrev dm_Rm_toStop : Nat × Nat := (2, 45)
abbrev dm_Rm_top : Nat × Nat := (0, 0)
abbrev dm_Rm_wholeLines : Nat × Nat := (3, 70)
abbrev dm_Rm_work : Nat × Nat := (10, 253)
abbrev dm_Te_closeLetters : Nat × Nat := (1, 26)
abbrev dm_Te_closeLines : Nat × Nat := (1, 26)
abbrev dm_Te_codeAt : Nat × Nat := (0, 0)
abbrev dm_Te_copy : Nat × Nat := (1, 26)
abbrev dm_Te_copyLetters : Nat × Nat := (1, 26)
abbrev dm_Te_copyLines : Nat × Nat := (1, 26)
abbrev dm_Te_indentOf : Nat × Nat := (1, 21)
abbrev dm_Te_openLetters : Nat × Nat := (2, 46)
abbrev dm_Te_openLines : Nat × Nat := (2, 46)
abbrev dm_Te_reset : Nat × Nat := (0, 0)
abbrev dm_Te_sizeOf : Nat × Nat := (0, 0)
abbrev dm_Te_stand : Nat × Nat := (1, 26)
abbrev dm_Te_write : Nat × Nat := (0, 0)
abbrev dm_Wi_codeAt : Nat × Nat := (0, 0)
abbrev dm_Wi_follow : Nat × Nat := (2, 48)
abbrev dm_Wi_paint : Nat × Nat := (2, 48)
abbrev dm_Wi_rowsOf : Nat × Nat := (1, 26)
abbrev dm_Wi_send : Nat × Nat := (0, 0)
abbrev dm_Wi_show : Nat × Nat := (3, 72)
abbrev dm_Wi_wipe : Nat × Nat := (1, 23)
