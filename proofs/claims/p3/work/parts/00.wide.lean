/-! names of the rest of the library: the parts are read over the whole of it -/
theorem wd_1 : @Jvm.Free.Multi.outerC = @Jvm.Free.Multi.outerC := rfl
theorem wd_2 : @Jvm.Free.Multi.innerC = @Jvm.Free.Multi.innerC := rfl
theorem wd_3 : @Jvm.Free.Multi.fill = @Jvm.Free.Multi.fill := rfl
theorem wd_4 : @Jvm.Free.Multi.outerC_facts = @Jvm.Free.Multi.outerC_facts := rfl
theorem wd_5 : @Jvm.Free.Multi.fill_facts = @Jvm.Free.Multi.fill_facts := rfl
theorem wd_6 : @Jvm.Free.Multi.fill_setTop = @Jvm.Free.Multi.fill_setTop := rfl
theorem wd_7 : @Jvm.Free.Multi.fill_old = @Jvm.Free.Multi.fill_old := rfl
theorem wd_8 : @Jvm.Free.Multi.fill_inner = @Jvm.Free.Multi.fill_inner := rfl
theorem wd_9 : @Jvm.Free.Multi.outerC_slot = @Jvm.Free.Multi.outerC_slot := rfl
theorem wd_10 : @Jvm.Free.Multi.wp_make1 = @Jvm.Free.Multi.wp_make1 := rfl
theorem wd_11 : @Jvm.Free.Multi.wp_make2 = @Jvm.Free.Multi.wp_make2 := rfl
theorem wd_12 : @Jvm.Free.Multi.refFits = @Jvm.Free.Multi.refFits := rfl
