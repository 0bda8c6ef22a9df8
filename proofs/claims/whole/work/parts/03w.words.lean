theorem tw_0 : (Jvm.Cond.selects "FlumeOrders$Things" ({ cls := "FlumeOrders$Things", name := "behindRun", desc := "([II)I" } : Jvm.MethodName) ({ cls := "FlumeOrders$Things", name := "behindRun", desc := "([II)I" } : Jvm.MethodName)) ∈ TW := in_t0 0 (by decide +kernel) rfl
theorem tw_1 : (Jvm.Cond.selects "FlumeOrders$Things" ({ cls := "FlumeOrders$Things", name := "add", desc := "([III)V" } : Jvm.MethodName) ({ cls := "FlumeOrders$Things", name := "add", desc := "([III)V" } : Jvm.MethodName)) ∈ TW := in_t0 1 (by decide +kernel) rfl
theorem tw_2 : (Jvm.Cond.selects "FlumeOrders$Word" ({ cls := "FlumeOrders$Word", name := "isSpelled", desc := "([III)Z" } : Jvm.MethodName) ({ cls := "FlumeOrders$Word", name := "isSpelled", desc := "([III)Z" } : Jvm.MethodName)) ∈ TW := in_t0 2 (by decide +kernel) rfl
theorem tw_3 : (Jvm.Cond.selects "FlumeOrders$Forest" ({ cls := "FlumeOrders$Forest", name := "readLine", desc := "(LFlumeOrders$Things;)V" } : Jvm.MethodName) ({ cls := "FlumeOrders$Forest", name := "readLine", desc := "(LFlumeOrders$Things;)V" } : Jvm.MethodName)) ∈ TW := in_t0 3 (by decide +kernel) rfl
theorem tw_4 : (Jvm.Cond.selects "FlumeOrders$Forest" ({ cls := "FlumeOrders$Forest", name := "mayGrow", desc := "()Z" } : Jvm.MethodName) ({ cls := "FlumeOrders$Forest", name := "mayGrow", desc := "()Z" } : Jvm.MethodName)) ∈ TW := in_t0 4 (by decide +kernel) rfl
theorem tw_5 : (Jvm.Cond.selects "FlumeOrders$Forest" ({ cls := "FlumeOrders$Forest", name := "readCamp", desc := "(LFlumeOrders$Things;)V" } : Jvm.MethodName) ({ cls := "FlumeOrders$Forest", name := "readCamp", desc := "(LFlumeOrders$Things;)V" } : Jvm.MethodName)) ∈ TW := in_t0 5 (by decide +kernel) rfl
theorem tw_6 : (Jvm.Cond.selects "FlumeOrders$Forest" ({ cls := "FlumeOrders$Forest", name := "addCamp", desc := "(II)V" } : Jvm.MethodName) ({ cls := "FlumeOrders$Forest", name := "addCamp", desc := "(II)V" } : Jvm.MethodName)) ∈ TW := in_t0 6 (by decide +kernel) rfl
theorem tw_7 : (Jvm.Cond.selects "FlumeOrders$Forest" ({ cls := "FlumeOrders$Forest", name := "setReach", desc := "(IIII)V" } : Jvm.MethodName) ({ cls := "FlumeOrders$Forest", name := "setReach", desc := "(IIII)V" } : Jvm.MethodName)) ∈ TW := in_t0 7 (by decide +kernel) rfl
theorem tw_8 : (Jvm.Cond.selects "FlumeOrders$Forest" ({ cls := "FlumeOrders$Forest", name := "readReach", desc := "(LFlumeOrders$Things;)V" } : Jvm.MethodName) ({ cls := "FlumeOrders$Forest", name := "readReach", desc := "(LFlumeOrders$Things;)V" } : Jvm.MethodName)) ∈ TW := in_t0 8 (by decide +kernel) rfl
theorem tw_9 : (Jvm.Cond.selects "java/lang/Throwable" ({ cls := "java/lang/Throwable", name := "fillInStackTrace", desc := "(I)Ljava/lang/Throwable;" } : Jvm.MethodName) ({ cls := "java/lang/Throwable", name := "fillInStackTrace", desc := "(I)Ljava/lang/Throwable;" } : Jvm.MethodName)) ∈ TW := in_t0 9 (by decide +kernel) rfl
theorem tw_10 : (Jvm.Cond.selects "FlumeOrders$Notches" ({ cls := "FlumeOrders$Notches", name := "readHead", desc := "(LFlumeOrders$Things;)V" } : Jvm.MethodName) ({ cls := "FlumeOrders$Notches", name := "readHead", desc := "(LFlumeOrders$Things;)V" } : Jvm.MethodName)) ∈ TW := in_t0 10 (by decide +kernel) rfl
theorem tw_11 : (Jvm.Cond.selects "FlumeOrders$Notches" ({ cls := "FlumeOrders$Notches", name := "readAct", desc := "(LFlumeOrders$Things;)V" } : Jvm.MethodName) ({ cls := "FlumeOrders$Notches", name := "readAct", desc := "(LFlumeOrders$Things;)V" } : Jvm.MethodName)) ∈ TW := in_t0 11 (by decide +kernel) rfl
theorem tw_12 : (Jvm.Cond.selects "FlumeOrders$Notches" ({ cls := "FlumeOrders$Notches", name := "addAct", desc := "(LFlumeOrders$Word;I)V" } : Jvm.MethodName) ({ cls := "FlumeOrders$Notches", name := "addAct", desc := "(LFlumeOrders$Word;I)V" } : Jvm.MethodName)) ∈ TW := in_t0 12 (by decide +kernel) rfl
theorem tw_13 : (Jvm.Cond.selects "FlumeOrders$Notches" ({ cls := "FlumeOrders$Notches", name := "question", desc := "(LFlumeOrders$Things;I)V" } : Jvm.MethodName) ({ cls := "FlumeOrders$Notches", name := "question", desc := "(LFlumeOrders$Things;I)V" } : Jvm.MethodName)) ∈ TW := in_t0 13 (by decide +kernel) rfl
theorem tw_14 : (Jvm.Cond.selects "FlumeOrders$Notches" ({ cls := "FlumeOrders$Notches", name := "allOf", desc := "(LFlumeOrders$Things;I)V" } : Jvm.MethodName) ({ cls := "FlumeOrders$Notches", name := "allOf", desc := "(LFlumeOrders$Things;I)V" } : Jvm.MethodName)) ∈ TW := in_t0 14 (by decide +kernel) rfl
theorem tw_15 : (Jvm.Cond.selects "FlumeOrders$Notches" ({ cls := "FlumeOrders$Notches", name := "atom", desc := "(LFlumeOrders$Things;I)V" } : Jvm.MethodName) ({ cls := "FlumeOrders$Notches", name := "atom", desc := "(LFlumeOrders$Things;I)V" } : Jvm.MethodName)) ∈ TW := in_t0 15 (by decide +kernel) rfl
theorem tw_16 : (Jvm.Cond.selects "FlumeOrders$Notches" ({ cls := "FlumeOrders$Notches", name := "addStep", desc := "(LFlumeOrders$Word;I)V" } : Jvm.MethodName) ({ cls := "FlumeOrders$Notches", name := "addStep", desc := "(LFlumeOrders$Word;I)V" } : Jvm.MethodName)) ∈ TW := in_t0 16 (by decide +kernel) rfl
theorem tw_17 : (Jvm.Cond.selects "FlumeOrders$Notches" ({ cls := "FlumeOrders$Notches", name := "sum", desc := "(LFlumeOrders$Things;)V" } : Jvm.MethodName) ({ cls := "FlumeOrders$Notches", name := "sum", desc := "(LFlumeOrders$Things;)V" } : Jvm.MethodName)) ∈ TW := in_t0 17 (by decide +kernel) rfl
theorem tw_18 : (Jvm.Cond.selects "FlumeOrders$Flow" ({ cls := "FlumeOrders$Flow", name := "minute", desc := "(LFlumeOrders$Forest;)V" } : Jvm.MethodName) ({ cls := "FlumeOrders$Flow", name := "minute", desc := "(LFlumeOrders$Forest;)V" } : Jvm.MethodName)) ∈ TW := in_t0 18 (by decide +kernel) rfl
theorem tw_19 : (Jvm.Cond.selects "FlumeOrders$Flow" ({ cls := "FlumeOrders$Flow", name := "come", desc := "(LFlumeOrders$Forest;I)V" } : Jvm.MethodName) ({ cls := "FlumeOrders$Flow", name := "come", desc := "(LFlumeOrders$Forest;I)V" } : Jvm.MethodName)) ∈ TW := in_t0 19 (by decide +kernel) rfl
theorem tw_20 : (Jvm.Cond.selects "FlumeOrders$Flow" ({ cls := "FlumeOrders$Flow", name := "doActs", desc := "(LFlumeOrders$Forest;I)V" } : Jvm.MethodName) ({ cls := "FlumeOrders$Flow", name := "doActs", desc := "(LFlumeOrders$Forest;I)V" } : Jvm.MethodName)) ∈ TW := in_t0 20 (by decide +kernel) rfl
theorem tw_21 : (Jvm.Cond.selects "FlumeOrders$Flow" ({ cls := "FlumeOrders$Flow", name := "holds", desc := "(LFlumeOrders$Forest;LFlumeOrders$Chip;LFlumeOrders$Notches;I)Z" } : Jvm.MethodName) ({ cls := "FlumeOrders$Flow", name := "holds", desc := "(LFlumeOrders$Forest;LFlumeOrders$Chip;LFlumeOrders$Notches;I)Z" } : Jvm.MethodName)) ∈ TW := in_t0 21 (by decide +kernel) rfl
theorem tw_22 : (Jvm.Cond.selects "FlumeOrders$Flow" ({ cls := "FlumeOrders$Flow", name := "enter", desc := "(LFlumeOrders$Forest;I)V" } : Jvm.MethodName) ({ cls := "FlumeOrders$Flow", name := "enter", desc := "(LFlumeOrders$Forest;I)V" } : Jvm.MethodName)) ∈ TW := in_t0 22 (by decide +kernel) rfl
theorem tw_23 : (Jvm.Cond.selects "FlumeOrders$Flow" ({ cls := "FlumeOrders$Flow", name := "passStill", desc := "(LFlumeOrders$Forest;I)I" } : Jvm.MethodName) ({ cls := "FlumeOrders$Flow", name := "passStill", desc := "(LFlumeOrders$Forest;I)I" } : Jvm.MethodName)) ∈ TW := in_t0 23 (by decide +kernel) rfl
theorem tw_24 : (Jvm.Cond.selects "FlumeOrders" ({ cls := "FlumeOrders", name := "demandReach", desc := "(I)V" } : Jvm.MethodName) ({ cls := "FlumeOrders", name := "demandReach", desc := "(I)V" } : Jvm.MethodName)) ∈ TW := in_t0 24 (by decide +kernel) rfl
theorem tw_25 : (Jvm.Cond.selects "FlumeOrders" ({ cls := "FlumeOrders", name := "demandCamp", desc := "(I)V" } : Jvm.MethodName) ({ cls := "FlumeOrders", name := "demandCamp", desc := "(I)V" } : Jvm.MethodName)) ∈ TW := in_t0 25 (by decide +kernel) rfl
theorem tw_26 : (Jvm.Cond.selects "FlumeOrders" ({ cls := "FlumeOrders", name := "demandWay", desc := "(II)V" } : Jvm.MethodName) ({ cls := "FlumeOrders", name := "demandWay", desc := "(II)V" } : Jvm.MethodName)) ∈ TW := in_t0 26 (by decide +kernel) rfl
theorem tw_27 : (Jvm.Cond.selects "FlumeOrders" ({ cls := "FlumeOrders", name := "demandStation", desc := "(I)V" } : Jvm.MethodName) ({ cls := "FlumeOrders", name := "demandStation", desc := "(I)V" } : Jvm.MethodName)) ∈ TW := in_t0 27 (by decide +kernel) rfl
theorem tw_28 : (Jvm.Cond.selects "FlumeOrders" ({ cls := "FlumeOrders", name := "demandOrder", desc := "(I)V" } : Jvm.MethodName) ({ cls := "FlumeOrders", name := "demandOrder", desc := "(I)V" } : Jvm.MethodName)) ∈ TW := in_t0 28 (by decide +kernel) rfl
theorem tw_29 : (Jvm.Cond.selects "FlumeOrders$Orders" ({ cls := "FlumeOrders$Orders", name := "delaySome", desc := "()Z" } : Jvm.MethodName) ({ cls := "FlumeOrders$Orders", name := "delaySome", desc := "()Z" } : Jvm.MethodName)) ∈ TW := in_t0 29 (by decide +kernel) rfl
theorem tw_30 : (Jvm.Cond.selects "FlumeOrders$Row" ({ cls := "FlumeOrders$Row", name := "sortTold", desc := "()V" } : Jvm.MethodName) ({ cls := "FlumeOrders$Row", name := "sortTold", desc := "()V" } : Jvm.MethodName)) ∈ TW := in_t0 30 (by decide +kernel) rfl
theorem tw_31 : (Jvm.Cond.selects "FlumeOrders$Row" ({ cls := "FlumeOrders$Row", name := "comesAsTold", desc := "(II)Z" } : Jvm.MethodName) ({ cls := "FlumeOrders$Row", name := "comesAsTold", desc := "(II)Z" } : Jvm.MethodName)) ∈ TW := in_t0 31 (by decide +kernel) rfl
theorem tw_32 : (Jvm.Cond.selects "FlumeOrders$Row" ({ cls := "FlumeOrders$Row", name := "goToNext", desc := "()Z" } : Jvm.MethodName) ({ cls := "FlumeOrders$Row", name := "goToNext", desc := "()Z" } : Jvm.MethodName)) ∈ TW := in_t0 32 (by decide +kernel) rfl
theorem tw_33 : (Jvm.Cond.selects "FlumeOrders$Row" ({ cls := "FlumeOrders$Row", name := "swap", desc := "(II)V" } : Jvm.MethodName) ({ cls := "FlumeOrders$Row", name := "swap", desc := "(II)V" } : Jvm.MethodName)) ∈ TW := in_t0 33 (by decide +kernel) rfl
theorem tw_34 : (Jvm.Cond.selects "FlumeOrdersModel" ({ cls := "FlumeOrdersModel", name := "begins", desc := "()V" } : Jvm.MethodName) ({ cls := "FlumeOrdersModel", name := "begins", desc := "()V" } : Jvm.MethodName)) ∈ TW := in_t0 34 (by decide +kernel) rfl
theorem tw_35 : (Jvm.Cond.selects "FlumeOrdersModel" ({ cls := "FlumeOrdersModel", name := "skip", desc := "()V" } : Jvm.MethodName) ({ cls := "FlumeOrdersModel", name := "skip", desc := "()V" } : Jvm.MethodName)) ∈ TW := in_t0 35 (by decide +kernel) rfl
theorem tw_36 : (Jvm.Cond.selects "FlumeOrdersModel" ({ cls := "FlumeOrdersModel", name := "letter", desc := "(I)I" } : Jvm.MethodName) ({ cls := "FlumeOrdersModel", name := "letter", desc := "(I)I" } : Jvm.MethodName)) ∈ TW := in_t0 36 (by decide +kernel) rfl
theorem tw_37 : (Jvm.Cond.selects "FlumeOrdersModel" ({ cls := "FlumeOrdersModel", name := "wrong", desc := "(I)V" } : Jvm.MethodName) ({ cls := "FlumeOrdersModel", name := "wrong", desc := "(I)V" } : Jvm.MethodName)) ∈ TW := in_t0 37 (by decide +kernel) rfl
theorem tw_38 : (Jvm.Cond.selects "FlumeOrdersModel" ({ cls := "FlumeOrdersModel", name := "forestLine", desc := "()V" } : Jvm.MethodName) ({ cls := "FlumeOrdersModel", name := "forestLine", desc := "()V" } : Jvm.MethodName)) ∈ TW := in_t0 38 (by decide +kernel) rfl
theorem tw_39 : (Jvm.Cond.selects "FlumeOrdersModel" ({ cls := "FlumeOrdersModel", name := "has", desc := "(Ljava/lang/String;)Z" } : Jvm.MethodName) ({ cls := "FlumeOrdersModel", name := "has", desc := "(Ljava/lang/String;)Z" } : Jvm.MethodName)) ∈ TW := in_t0 39 (by decide +kernel) rfl
theorem tw_40 : (Jvm.Cond.selects "FlumeOrdersModel" ({ cls := "FlumeOrdersModel", name := "figures", desc := "(II)I" } : Jvm.MethodName) ({ cls := "FlumeOrdersModel", name := "figures", desc := "(II)I" } : Jvm.MethodName)) ∈ TW := in_t0 40 (by decide +kernel) rfl
theorem tw_41 : (Jvm.Cond.selects "FlumeOrdersModel" ({ cls := "FlumeOrdersModel", name := "isSign", desc := "(I)Z" } : Jvm.MethodName) ({ cls := "FlumeOrdersModel", name := "isSign", desc := "(I)Z" } : Jvm.MethodName)) ∈ TW := in_t0 41 (by decide +kernel) rfl
theorem tw_42 : (Jvm.Cond.selects "FlumeOrdersModel" ({ cls := "FlumeOrdersModel", name := "isStation", desc := "(II)Z" } : Jvm.MethodName) ({ cls := "FlumeOrdersModel", name := "isStation", desc := "(II)Z" } : Jvm.MethodName)) ∈ TW := in_t0 42 (by decide +kernel) rfl
theorem tw_43 : (Jvm.Cond.selects "FlumeOrdersModel" ({ cls := "FlumeOrdersModel", name := "notches", desc := "()V" } : Jvm.MethodName) ({ cls := "FlumeOrdersModel", name := "notches", desc := "()V" } : Jvm.MethodName)) ∈ TW := in_t0 43 (by decide +kernel) rfl
theorem tw_44 : (Jvm.Cond.selects "FlumeOrdersModel" ({ cls := "FlumeOrdersModel", name := "act", desc := "()V" } : Jvm.MethodName) ({ cls := "FlumeOrdersModel", name := "act", desc := "()V" } : Jvm.MethodName)) ∈ TW := in_t0 44 (by decide +kernel) rfl
theorem tw_45 : (Jvm.Cond.selects "FlumeOrdersModel" ({ cls := "FlumeOrdersModel", name := "asks", desc := "()V" } : Jvm.MethodName) ({ cls := "FlumeOrdersModel", name := "asks", desc := "()V" } : Jvm.MethodName)) ∈ TW := in_t0 45 (by decide +kernel) rfl
theorem tw_46 : (Jvm.Cond.selects "FlumeOrdersModel" ({ cls := "FlumeOrdersModel", name := "chipOf", desc := "(II)I" } : Jvm.MethodName) ({ cls := "FlumeOrdersModel", name := "chipOf", desc := "(II)I" } : Jvm.MethodName)) ∈ TW := in_t0 46 (by decide +kernel) rfl
theorem tw_47 : (Jvm.Cond.selects "FlumeOrdersModel" ({ cls := "FlumeOrdersModel", name := "some", desc := "()Z" } : Jvm.MethodName) ({ cls := "FlumeOrdersModel", name := "some", desc := "()Z" } : Jvm.MethodName)) ∈ TW := in_t0 47 (by decide +kernel) rfl
theorem tw_48 : (Jvm.Cond.selects "FlumeOrdersModel" ({ cls := "FlumeOrdersModel", name := "every", desc := "()Z" } : Jvm.MethodName) ({ cls := "FlumeOrdersModel", name := "every", desc := "()Z" } : Jvm.MethodName)) ∈ TW := in_t0 48 (by decide +kernel) rfl
theorem tw_49 : (Jvm.Cond.selects "FlumeOrdersModel" ({ cls := "FlumeOrdersModel", name := "atom", desc := "()Z" } : Jvm.MethodName) ({ cls := "FlumeOrdersModel", name := "atom", desc := "()Z" } : Jvm.MethodName)) ∈ TW := in_t0 49 (by decide +kernel) rfl
theorem tw_50 : (Jvm.Cond.selects "FlumeOrdersModel" ({ cls := "FlumeOrdersModel", name := "plain", desc := "()Z" } : Jvm.MethodName) ({ cls := "FlumeOrdersModel", name := "plain", desc := "()Z" } : Jvm.MethodName)) ∈ TW := in_t0 50 (by decide +kernel) rfl
theorem tw_51 : (Jvm.Cond.selects "FlumeOrdersModel" ({ cls := "FlumeOrdersModel", name := "isFrost", desc := "()Z" } : Jvm.MethodName) ({ cls := "FlumeOrdersModel", name := "isFrost", desc := "()Z" } : Jvm.MethodName)) ∈ TW := in_t0 51 (by decide +kernel) rfl
theorem tw_52 : (Jvm.Cond.selects "FlumeOrdersModel" ({ cls := "FlumeOrdersModel", name := "sum", desc := "()I" } : Jvm.MethodName) ({ cls := "FlumeOrdersModel", name := "sum", desc := "()I" } : Jvm.MethodName)) ∈ TW := in_t0 52 (by decide +kernel) rfl
theorem tw_53 : (Jvm.Cond.selects "FlumeOrdersModel" ({ cls := "FlumeOrdersModel", name := "part", desc := "()I" } : Jvm.MethodName) ({ cls := "FlumeOrdersModel", name := "part", desc := "()I" } : Jvm.MethodName)) ∈ TW := in_t0 53 (by decide +kernel) rfl
theorem tw_54 : (Jvm.Cond.selects "FlumeOrdersModel" ({ cls := "FlumeOrdersModel", name := "acts", desc := "(II)V" } : Jvm.MethodName) ({ cls := "FlumeOrdersModel", name := "acts", desc := "(II)V" } : Jvm.MethodName)) ∈ TW := in_t0 54 (by decide +kernel) rfl
theorem tw_55 : (Jvm.Cond.selects "FlumeOrdersModel" ({ cls := "FlumeOrdersModel", name := "adds", desc := "(IIII)I" } : Jvm.MethodName) ({ cls := "FlumeOrdersModel", name := "adds", desc := "(IIII)I" } : Jvm.MethodName)) ∈ TW := in_t0 55 (by decide +kernel) rfl
theorem tw_56 : (Jvm.Cond.selects "FlumeOrdersModel" ({ cls := "FlumeOrdersModel", name := "sets", desc := "(III)V" } : Jvm.MethodName) ({ cls := "FlumeOrdersModel", name := "sets", desc := "(III)V" } : Jvm.MethodName)) ∈ TW := in_t0 56 (by decide +kernel) rfl
theorem tw_57 : (Jvm.Cond.selects "FlumeOrdersModel" ({ cls := "FlumeOrdersModel", name := "minute", desc := "()V" } : Jvm.MethodName) ({ cls := "FlumeOrdersModel", name := "minute", desc := "()V" } : Jvm.MethodName)) ∈ TW := in_t0 57 (by decide +kernel) rfl
theorem tw_58 : (Jvm.Cond.selects "FlumeOrdersModel" ({ cls := "FlumeOrdersModel", name := "comes", desc := "(II)V" } : Jvm.MethodName) ({ cls := "FlumeOrdersModel", name := "comes", desc := "(II)V" } : Jvm.MethodName)) ∈ TW := in_t0 58 (by decide +kernel) rfl
theorem tw_59 : (Jvm.Cond.selects "FlumeOrdersModel" ({ cls := "FlumeOrdersModel", name := "reads", desc := "(IZ)V" } : Jvm.MethodName) ({ cls := "FlumeOrdersModel", name := "reads", desc := "(IZ)V" } : Jvm.MethodName)) ∈ TW := in_t0 59 (by decide +kernel) rfl
theorem tw_60 : (Jvm.Cond.selects "FlumeOrdersModel" ({ cls := "FlumeOrdersModel", name := "enters", desc := "(I)V" } : Jvm.MethodName) ({ cls := "FlumeOrdersModel", name := "enters", desc := "(I)V" } : Jvm.MethodName)) ∈ TW := in_t0 60 (by decide +kernel) rfl
theorem tw_61 : (Jvm.Cond.selects "FlumeOrdersModel" ({ cls := "FlumeOrdersModel", name := "nextAt", desc := "(I)I" } : Jvm.MethodName) ({ cls := "FlumeOrdersModel", name := "nextAt", desc := "(I)I" } : Jvm.MethodName)) ∈ TW := in_t0 61 (by decide +kernel) rfl
theorem tw_62 : (Jvm.Cond.selects "FlumeOrdersModel" ({ cls := "FlumeOrdersModel", name := "reachOf", desc := "(II)I" } : Jvm.MethodName) ({ cls := "FlumeOrdersModel", name := "reachOf", desc := "(II)I" } : Jvm.MethodName)) ∈ TW := in_t0 62 (by decide +kernel) rfl
theorem tw_63 : (Jvm.Cond.selects "FlumeOrdersModel" ({ cls := "FlumeOrdersModel", name := "inReach", desc := "(I)I" } : Jvm.MethodName) ({ cls := "FlumeOrdersModel", name := "inReach", desc := "(I)I" } : Jvm.MethodName)) ∈ TW := in_t0 63 (by decide +kernel) rfl
theorem tw_64 : (Jvm.Cond.selects "FlumeOrdersModel" ({ cls := "FlumeOrdersModel", name := "isCamp", desc := "(I)Z" } : Jvm.MethodName) ({ cls := "FlumeOrdersModel", name := "isCamp", desc := "(I)Z" } : Jvm.MethodName)) ∈ TW := in_t0 64 (by decide +kernel) rfl
theorem tw_65 : (Jvm.Cond.selects "FlumeOrdersModel" ({ cls := "FlumeOrdersModel", name := "twoStations", desc := "(II)I" } : Jvm.MethodName) ({ cls := "FlumeOrdersModel", name := "twoStations", desc := "(II)I" } : Jvm.MethodName)) ∈ TW := in_t0 65 (by decide +kernel) rfl
theorem tw_66 : (Jvm.Cond.selects "FlumeOrdersModel" ({ cls := "FlumeOrdersModel", name := "wayOf", desc := "(IIII)I" } : Jvm.MethodName) ({ cls := "FlumeOrdersModel", name := "wayOf", desc := "(IIII)I" } : Jvm.MethodName)) ∈ TW := in_t0 66 (by decide +kernel) rfl
theorem tw_67 : (Jvm.Cond.selects "FlumeOrdersModel" ({ cls := "FlumeOrdersModel", name := "orderTime", desc := "(I)I" } : Jvm.MethodName) ({ cls := "FlumeOrdersModel", name := "orderTime", desc := "(I)I" } : Jvm.MethodName)) ∈ TW := in_t0 67 (by decide +kernel) rfl
theorem tw_68 : (Jvm.Cond.selects "FlumeOrdersModel" ({ cls := "FlumeOrdersModel", name := "chanceOf", desc := "(II)I" } : Jvm.MethodName) ({ cls := "FlumeOrdersModel", name := "chanceOf", desc := "(II)I" } : Jvm.MethodName)) ∈ TW := in_t0 68 (by decide +kernel) rfl
theorem tw_69 : (Jvm.Cond.selects "FlumeOrdersModel" ({ cls := "FlumeOrdersModel", name := "tries", desc := "(II)V" } : Jvm.MethodName) ({ cls := "FlumeOrdersModel", name := "tries", desc := "(II)V" } : Jvm.MethodName)) ∈ TW := in_t0 69 (by decide +kernel) rfl
theorem tw_70 : (Jvm.Cond.selects "FlumeOrdersModel" ({ cls := "FlumeOrdersModel", name := "comesSo", desc := "()Z" } : Jvm.MethodName) ({ cls := "FlumeOrdersModel", name := "comesSo", desc := "()Z" } : Jvm.MethodName)) ∈ TW := in_t0 70 (by decide +kernel) rfl
theorem tw_71 : (Jvm.Cond.initialized "FlumeOrdersLaw") ∈ TW := in_t1 0 (by decide +kernel) rfl
theorem tw_72 : (Jvm.Cond.initialized "FlumeOrders") ∈ TW := in_t1 1 (by decide +kernel) rfl
theorem tw_73 : (Jvm.Cond.initialized "FlumeOrders$Tape") ∈ TW := in_t1 2 (by decide +kernel) rfl
theorem tw_74 : (Jvm.Cond.initialized "FlumeOrders$Things") ∈ TW := in_t1 3 (by decide +kernel) rfl
theorem tw_75 : (Jvm.Cond.initialized "FlumeOrders$Flow") ∈ TW := in_t1 4 (by decide +kernel) rfl
theorem tw_76 : (Jvm.Cond.initialized "FlumeOrders$Notches") ∈ TW := in_t1 5 (by decide +kernel) rfl
theorem tw_77 : (Jvm.Cond.initialized "FlumeOrders$Row") ∈ TW := in_t1 6 (by decide +kernel) rfl
theorem tw_78 : (Jvm.Cond.initialized "FlumeOrders$Forest") ∈ TW := in_t1 7 (by decide +kernel) rfl
theorem tw_79 : (Jvm.Cond.initialized "FlumeOrders$Orders") ∈ TW := in_t1 8 (by decide +kernel) rfl
theorem tw_80 : (Jvm.Cond.initialized "FlumeOrders$Camp") ∈ TW := in_t1 9 (by decide +kernel) rfl
theorem tw_81 : (Jvm.Cond.initialized "FlumeOrders$Reach") ∈ TW := in_t1 10 (by decide +kernel) rfl
theorem tw_82 : (Jvm.Cond.initialized "FlumeOrders$Chip") ∈ TW := in_t1 11 (by decide +kernel) rfl
theorem tw_83 : (Jvm.Cond.initialized "FlumeOrdersModel") ∈ TW := in_t1 12 (by decide +kernel) rfl
theorem tw_84 : (Jvm.Cond.initialized "java/lang/Math") ∈ TW := in_t1 13 (by decide +kernel) rfl
theorem tw_85 : (Jvm.Cond.initialized "java/lang/Enum") ∈ TW := in_t1 14 (by decide +kernel) rfl
theorem tw_86 : (Jvm.Cond.initialized "FlumeOrders$Word") ∈ TW := in_t1 15 (by decide +kernel) rfl
theorem tw_87 : (Jvm.Cond.initialized "java/lang/String") ∈ TW := in_t1 16 (by decide +kernel) rfl
theorem tw_88 : (Jvm.Cond.initialized "java/lang/StringLatin1") ∈ TW := in_t1 17 (by decide +kernel) rfl
theorem tw_89 : (Jvm.Cond.initialized "jdk/internal/util/Preconditions") ∈ TW := in_t1 18 (by decide +kernel) rfl
theorem tw_90 : (Jvm.Cond.initialized "java/lang/StringUTF16") ∈ TW := in_t1 19 (by decide +kernel) rfl
theorem tw_91 : (Jvm.Cond.initialized "java/lang/Throwable") ∈ TW := in_t1 20 (by decide +kernel) rfl
theorem tw_92 : (Jvm.Cond.initialized "java/lang/Exception") ∈ TW := in_t1 21 (by decide +kernel) rfl
theorem tw_93 : (Jvm.Cond.initialized "java/lang/RuntimeException") ∈ TW := in_t1 22 (by decide +kernel) rfl
theorem tw_94 : (Jvm.Cond.initialized "java/lang/IllegalArgumentException") ∈ TW := in_t1 23 (by decide +kernel) rfl
theorem tw_95 : (Jvm.Cond.initialized "java/lang/UnsupportedOperationException") ∈ TW := in_t1 24 (by decide +kernel) rfl
theorem tw_96 : (Jvm.Cond.initialized "java/lang/IndexOutOfBoundsException") ∈ TW := in_t1 25 (by decide +kernel) rfl
theorem tw_97 : (Jvm.Cond.initialized "FlumeOrders$1") ∈ TW := in_t1 26 (by decide +kernel) rfl
theorem tw_98 : (Jvm.Cond.initialized "java/util/NoSuchElementException") ∈ TW := in_t1 27 (by decide +kernel) rfl
theorem tw_99 : (Jvm.Cond.initialized "java/lang/System") ∈ TW := in_t1 28 (by decide +kernel) rfl
theorem tw_100 : (Jvm.Cond.initialized "java/lang/Integer") ∈ TW := in_t1 29 (by decide +kernel) rfl
theorem tw_101 : (Jvm.Cond.classLink "FlumeOrdersLaw" (8 : Nat) "FlumeOrders") ∈ TW := in_t1 30 (by decide +kernel) rfl
theorem tw_102 : (Jvm.Cond.instantiable "FlumeOrders" (8 : Nat)) ∈ TW := in_t1 31 (by decide +kernel) rfl
theorem tw_103 : (Jvm.Cond.methodLink "FlumeOrdersLaw" (74 : Nat) ({ cls := "FlumeOrders", name := "<init>", desc := "()V" } : Jvm.MethodName)) ∈ TW := in_t1 32 (by decide +kernel) rfl
theorem tw_104 : (Jvm.Cond.instanceMethod ({ cls := "FlumeOrders", name := "<init>", desc := "()V" } : Jvm.MethodName)) ∈ TW := in_t1 33 (by decide +kernel) rfl
theorem tw_105 : (Jvm.Cond.code ({ cls := "FlumeOrders", name := "<init>", desc := "()V" } : Jvm.MethodName) prog_1_method_1_code (1 : Nat) (Option.none : Option Jvm.ClassFile.FieldType)) ∈ TW := in_t1 34 (by decide +kernel) rfl
theorem tw_106 : (Jvm.Cond.methodLink "FlumeOrders" (1 : Nat) ({ cls := "java/lang/Object", name := "<init>", desc := "()V" } : Jvm.MethodName)) ∈ TW := in_t1 35 (by decide +kernel) rfl
theorem tw_107 : (Jvm.Cond.instanceMethod ({ cls := "java/lang/Object", name := "<init>", desc := "()V" } : Jvm.MethodName)) ∈ TW := in_t1 36 (by decide +kernel) rfl
theorem tw_108 : (Jvm.Cond.code ({ cls := "java/lang/Object", name := "<init>", desc := "()V" } : Jvm.MethodName) object_method_1_code (1 : Nat) (Option.none : Option Jvm.ClassFile.FieldType)) ∈ TW := in_t1 37 (by decide +kernel) rfl
theorem tw_109 : (Jvm.Cond.classLink "FlumeOrders" (7 : Nat) "FlumeOrders$Tape") ∈ TW := in_t1 38 (by decide +kernel) rfl
theorem tw_110 : (Jvm.Cond.instantiable "FlumeOrders$Tape" (2 : Nat)) ∈ TW := in_t1 39 (by decide +kernel) rfl
theorem tw_112 : (Jvm.Cond.instanceMethod ({ cls := "FlumeOrders$Tape", name := "<init>", desc := "()V" } : Jvm.MethodName)) ∈ TW := in_t1 41 (by decide +kernel) rfl
theorem tw_113 : (Jvm.Cond.code ({ cls := "FlumeOrders$Tape", name := "<init>", desc := "()V" } : Jvm.MethodName) prog_11_method_1_code (1 : Nat) (Option.none : Option Jvm.ClassFile.FieldType)) ∈ TW := in_t1 42 (by decide +kernel) rfl
theorem tw_114 : (Jvm.Cond.methodLink "FlumeOrders$Tape" (3 : Nat) ({ cls := "java/lang/Object", name := "<init>", desc := "()V" } : Jvm.MethodName)) ∈ TW := in_t1 43 (by decide +kernel) rfl
theorem tw_115 : (Jvm.Cond.fieldLink "FlumeOrders$Tape" (9 : Nat) "FlumeOrders$Tape" "bytes" "[I") ∈ TW := in_t1 44 (by decide +kernel) rfl
theorem tw_116 : (Jvm.Cond.fieldLink "FlumeOrders$Row" (34 : Nat) "FlumeOrders$Tape" "bytes" "[I") ∈ TW := in_t1 45 (by decide +kernel) rfl
theorem tw_117 : (Jvm.Cond.fieldLink "FlumeOrders" (58 : Nat) "FlumeOrders$Tape" "bytes" "[I") ∈ TW := in_t1 46 (by decide +kernel) rfl
theorem tw_118 : (Jvm.Cond.fieldLink "FlumeOrders" (50 : Nat) "FlumeOrders$Tape" "size" "I") ∈ TW := in_t1 47 (by decide +kernel) rfl
theorem tw_119 : (Jvm.Cond.fieldLink "FlumeOrders$Tape" (15 : Nat) "FlumeOrders$Tape" "size" "I") ∈ TW := in_t1 48 (by decide +kernel) rfl
theorem tw_120 : (Jvm.Cond.laysFinal "FlumeOrders$Tape" "FlumeOrders$Tape" "bytes" "[I") ∈ TW := in_t1 49 (by decide +kernel) rfl
theorem tw_122 : (Jvm.Cond.lays "FlumeOrders$Tape" "FlumeOrders$Tape" "size" "I") ∈ TW := in_t1 51 (by decide +kernel) rfl
theorem tw_126 : (Jvm.Cond.classLink "FlumeOrders" (16 : Nat) "FlumeOrders$Things") ∈ TW := in_t1 55 (by decide +kernel) rfl
theorem tw_127 : (Jvm.Cond.instantiable "FlumeOrders$Things" (8 : Nat)) ∈ TW := in_t1 56 (by decide +kernel) rfl
theorem tw_129 : (Jvm.Cond.instanceMethod ({ cls := "FlumeOrders$Things", name := "<init>", desc := "()V" } : Jvm.MethodName)) ∈ TW := in_t1 58 (by decide +kernel) rfl
theorem tw_130 : (Jvm.Cond.code ({ cls := "FlumeOrders$Things", name := "<init>", desc := "()V" } : Jvm.MethodName) prog_12_method_1_code (1 : Nat) (Option.none : Option Jvm.ClassFile.FieldType)) ∈ TW := in_t1 59 (by decide +kernel) rfl
theorem tw_131 : (Jvm.Cond.methodLink "FlumeOrders$Things" (3 : Nat) ({ cls := "java/lang/Object", name := "<init>", desc := "()V" } : Jvm.MethodName)) ∈ TW := in_t1 60 (by decide +kernel) rfl
theorem tw_132 : (Jvm.Cond.classLink "FlumeOrders$Things" (9 : Nat) "FlumeOrders$Word") ∈ TW := in_t1 61 (by decide +kernel) rfl
theorem tw_134 : (Jvm.Cond.fieldLink "FlumeOrders$Things" (11 : Nat) "FlumeOrders$Things" "words" "[LFlumeOrders$Word;") ∈ TW := in_t1 63 (by decide +kernel) rfl
theorem tw_135 : (Jvm.Cond.fieldLink "FlumeOrders$Things" (17 : Nat) "FlumeOrders$Things" "begins" "[I") ∈ TW := in_t1 64 (by decide +kernel) rfl
theorem tw_136 : (Jvm.Cond.fieldLink "FlumeOrders$Things" (21 : Nat) "FlumeOrders$Things" "numbers" "[I") ∈ TW := in_t1 65 (by decide +kernel) rfl
theorem tw_137 : (Jvm.Cond.fieldLink "FlumeOrders$Things" (37 : Nat) "FlumeOrders$Things" "size" "I") ∈ TW := in_t1 66 (by decide +kernel) rfl
theorem tw_138 : (Jvm.Cond.fieldLink "FlumeOrders$Things" (40 : Nat) "FlumeOrders$Things" "at" "I") ∈ TW := in_t1 67 (by decide +kernel) rfl
theorem tw_139 : (Jvm.Cond.fieldLink "FlumeOrders$Things" (34 : Nat) "FlumeOrders$Things" "length" "I") ∈ TW := in_t1 68 (by decide +kernel) rfl
theorem tw_140 : (Jvm.Cond.fieldLink "FlumeOrders$Notches" (147 : Nat) "FlumeOrders$Things" "number" "I") ∈ TW := in_t1 69 (by decide +kernel) rfl
theorem tw_141 : (Jvm.Cond.fieldLink "FlumeOrders$Things" (84 : Nat) "FlumeOrders$Things" "number" "I") ∈ TW := in_t1 70 (by decide +kernel) rfl
theorem tw_142 : (Jvm.Cond.fieldLink "FlumeOrders$Things" (24 : Nat) "FlumeOrders$Things" "fault" "I") ∈ TW := in_t1 71 (by decide +kernel) rfl
theorem tw_143 : (Jvm.Cond.fieldLink "FlumeOrders" (117 : Nat) "FlumeOrders$Things" "fault" "I") ∈ TW := in_t1 72 (by decide +kernel) rfl
theorem tw_144 : (Jvm.Cond.laysFinal "FlumeOrders$Things" "FlumeOrders$Things" "words" "[LFlumeOrders$Word;") ∈ TW := in_t1 73 (by decide +kernel) rfl
theorem tw_146 : (Jvm.Cond.laysFinal "FlumeOrders$Things" "FlumeOrders$Things" "begins" "[I") ∈ TW := in_t1 75 (by decide +kernel) rfl
theorem tw_148 : (Jvm.Cond.laysFinal "FlumeOrders$Things" "FlumeOrders$Things" "numbers" "[I") ∈ TW := in_t1 77 (by decide +kernel) rfl
theorem tw_150 : (Jvm.Cond.lays "FlumeOrders$Things" "FlumeOrders$Things" "size" "I") ∈ TW := in_t1 79 (by decide +kernel) rfl
theorem tw_152 : (Jvm.Cond.lays "FlumeOrders$Things" "FlumeOrders$Things" "at" "I") ∈ TW := in_t1 81 (by decide +kernel) rfl
theorem tw_154 : (Jvm.Cond.lays "FlumeOrders$Things" "FlumeOrders$Things" "length" "I") ∈ TW := in_t1 83 (by decide +kernel) rfl
theorem tw_156 : (Jvm.Cond.lays "FlumeOrders$Things" "FlumeOrders$Things" "number" "I") ∈ TW := in_t1 85 (by decide +kernel) rfl
theorem tw_158 : (Jvm.Cond.lays "FlumeOrders$Things" "FlumeOrders$Things" "fault" "I") ∈ TW := in_t1 87 (by decide +kernel) rfl
theorem tw_161 : (Jvm.Cond.classLink "FlumeOrders" (23 : Nat) "FlumeOrders$Flow") ∈ TW := in_t1 90 (by decide +kernel) rfl
theorem tw_162 : (Jvm.Cond.instantiable "FlumeOrders$Flow" (2 : Nat)) ∈ TW := in_t1 91 (by decide +kernel) rfl
theorem tw_163 : (Jvm.Cond.methodLink "FlumeOrders" (25 : Nat) ({ cls := "FlumeOrders$Flow", name := "<init>", desc := "()V" } : Jvm.MethodName)) ∈ TW := in_t1 92 (by decide +kernel) rfl
theorem tw_164 : (Jvm.Cond.instanceMethod ({ cls := "FlumeOrders$Flow", name := "<init>", desc := "()V" } : Jvm.MethodName)) ∈ TW := in_t1 93 (by decide +kernel) rfl
theorem tw_165 : (Jvm.Cond.code ({ cls := "FlumeOrders$Flow", name := "<init>", desc := "()V" } : Jvm.MethodName) prog_5_method_1_code (2 : Nat) (Option.none : Option Jvm.ClassFile.FieldType)) ∈ TW := in_t1 94 (by decide +kernel) rfl
theorem tw_166 : (Jvm.Cond.methodLink "FlumeOrders$Flow" (3 : Nat) ({ cls := "java/lang/Object", name := "<init>", desc := "()V" } : Jvm.MethodName)) ∈ TW := in_t1 95 (by decide +kernel) rfl
theorem tw_167 : (Jvm.Cond.classLink "FlumeOrders$Flow" (9 : Nat) "FlumeOrders$Notches") ∈ TW := in_t1 96 (by decide +kernel) rfl
theorem tw_169 : (Jvm.Cond.instantiable "FlumeOrders$Notches" (8 : Nat)) ∈ TW := in_t1 98 (by decide +kernel) rfl
theorem tw_171 : (Jvm.Cond.instanceMethod ({ cls := "FlumeOrders$Notches", name := "<init>", desc := "()V" } : Jvm.MethodName)) ∈ TW := in_t1 100 (by decide +kernel) rfl
theorem tw_172 : (Jvm.Cond.code ({ cls := "FlumeOrders$Notches", name := "<init>", desc := "()V" } : Jvm.MethodName) prog_7_method_1_code (1 : Nat) (Option.none : Option Jvm.ClassFile.FieldType)) ∈ TW := in_t1 101 (by decide +kernel) rfl
theorem tw_173 : (Jvm.Cond.methodLink "FlumeOrders$Notches" (3 : Nat) ({ cls := "java/lang/Object", name := "<init>", desc := "()V" } : Jvm.MethodName)) ∈ TW := in_t1 102 (by decide +kernel) rfl
theorem tw_174 : (Jvm.Cond.classLink "FlumeOrders$Notches" (9 : Nat) "FlumeOrders$Word") ∈ TW := in_t1 103 (by decide +kernel) rfl
theorem tw_175 : (Jvm.Cond.fieldLink "FlumeOrders$Notches" (11 : Nat) "FlumeOrders$Notches" "kinds" "[LFlumeOrders$Word;") ∈ TW := in_t1 104 (by decide +kernel) rfl
theorem tw_176 : (Jvm.Cond.fieldLink "FlumeOrders$Flow" (115 : Nat) "FlumeOrders$Notches" "kinds" "[LFlumeOrders$Word;") ∈ TW := in_t1 105 (by decide +kernel) rfl
theorem tw_177 : (Jvm.Cond.fieldLink "FlumeOrders$Notches" (17 : Nat) "FlumeOrders$Notches" "amounts" "[I") ∈ TW := in_t1 106 (by decide +kernel) rfl
theorem tw_178 : (Jvm.Cond.fieldLink "FlumeOrders$Flow" (125 : Nat) "FlumeOrders$Notches" "amounts" "[I") ∈ TW := in_t1 107 (by decide +kernel) rfl
theorem tw_179 : (Jvm.Cond.fieldLink "FlumeOrders$Notches" (21 : Nat) "FlumeOrders$Notches" "questions" "[I") ∈ TW := in_t1 108 (by decide +kernel) rfl
theorem tw_180 : (Jvm.Cond.fieldLink "FlumeOrders$Flow" (159 : Nat) "FlumeOrders$Notches" "questions" "[I") ∈ TW := in_t1 109 (by decide +kernel) rfl
theorem tw_181 : (Jvm.Cond.fieldLink "FlumeOrders$Notches" (24 : Nat) "FlumeOrders$Notches" "steps" "[LFlumeOrders$Word;") ∈ TW := in_t1 110 (by decide +kernel) rfl
theorem tw_182 : (Jvm.Cond.fieldLink "FlumeOrders$Flow" (162 : Nat) "FlumeOrders$Notches" "steps" "[LFlumeOrders$Word;") ∈ TW := in_t1 111 (by decide +kernel) rfl
theorem tw_183 : (Jvm.Cond.fieldLink "FlumeOrders$Notches" (27 : Nat) "FlumeOrders$Notches" "numbers" "[I") ∈ TW := in_t1 112 (by decide +kernel) rfl
theorem tw_184 : (Jvm.Cond.fieldLink "FlumeOrders$Flow" (179 : Nat) "FlumeOrders$Notches" "numbers" "[I") ∈ TW := in_t1 113 (by decide +kernel) rfl
theorem tw_185 : (Jvm.Cond.fieldLink "FlumeOrders$Notches" (68 : Nat) "FlumeOrders$Notches" "head" "I") ∈ TW := in_t1 114 (by decide +kernel) rfl
theorem tw_186 : (Jvm.Cond.fieldLink "FlumeOrders" (110 : Nat) "FlumeOrders$Notches" "head" "I") ∈ TW := in_t1 115 (by decide +kernel) rfl
theorem tw_187 : (Jvm.Cond.fieldLink "FlumeOrders$Notches" (30 : Nat) "FlumeOrders$Notches" "acts" "I") ∈ TW := in_t1 116 (by decide +kernel) rfl
theorem tw_188 : (Jvm.Cond.fieldLink "FlumeOrders$Flow" (108 : Nat) "FlumeOrders$Notches" "acts" "I") ∈ TW := in_t1 117 (by decide +kernel) rfl
theorem tw_189 : (Jvm.Cond.fieldLink "FlumeOrders$Notches" (34 : Nat) "FlumeOrders$Notches" "size" "I") ∈ TW := in_t1 118 (by decide +kernel) rfl
theorem tw_190 : (Jvm.Cond.laysFinal "FlumeOrders$Notches" "FlumeOrders$Notches" "kinds" "[LFlumeOrders$Word;") ∈ TW := in_t1 119 (by decide +kernel) rfl
theorem tw_192 : (Jvm.Cond.laysFinal "FlumeOrders$Notches" "FlumeOrders$Notches" "amounts" "[I") ∈ TW := in_t1 121 (by decide +kernel) rfl
theorem tw_194 : (Jvm.Cond.laysFinal "FlumeOrders$Notches" "FlumeOrders$Notches" "questions" "[I") ∈ TW := in_t1 123 (by decide +kernel) rfl
theorem tw_196 : (Jvm.Cond.laysFinal "FlumeOrders$Notches" "FlumeOrders$Notches" "steps" "[LFlumeOrders$Word;") ∈ TW := in_t1 125 (by decide +kernel) rfl
theorem tw_198 : (Jvm.Cond.laysFinal "FlumeOrders$Notches" "FlumeOrders$Notches" "numbers" "[I") ∈ TW := in_t1 127 (by decide +kernel) rfl
theorem tw_200 : (Jvm.Cond.lays "FlumeOrders$Notches" "FlumeOrders$Notches" "head" "I") ∈ TW := in_t1 129 (by decide +kernel) rfl
theorem tw_202 : (Jvm.Cond.lays "FlumeOrders$Notches" "FlumeOrders$Notches" "acts" "I") ∈ TW := in_t1 131 (by decide +kernel) rfl
theorem tw_204 : (Jvm.Cond.lays "FlumeOrders$Notches" "FlumeOrders$Notches" "size" "I") ∈ TW := in_t1 133 (by decide +kernel) rfl
theorem tw_207 : (Jvm.Cond.fieldLink "FlumeOrders$Flow" (11 : Nat) "FlumeOrders$Flow" "written" "[LFlumeOrders$Notches;") ∈ TW := in_t1 136 (by decide +kernel) rfl
theorem tw_208 : (Jvm.Cond.fieldLink "FlumeOrders" (100 : Nat) "FlumeOrders$Flow" "written" "[LFlumeOrders$Notches;") ∈ TW := in_t1 137 (by decide +kernel) rfl
theorem tw_209 : (Jvm.Cond.fieldLink "FlumeOrders$Flow" (17 : Nat) "FlumeOrders$Flow" "stack" "[I") ∈ TW := in_t1 138 (by decide +kernel) rfl
theorem tw_210 : (Jvm.Cond.laysFinal "FlumeOrders$Flow" "FlumeOrders$Flow" "written" "[LFlumeOrders$Notches;") ∈ TW := in_t1 139 (by decide +kernel) rfl
theorem tw_212 : (Jvm.Cond.laysFinal "FlumeOrders$Flow" "FlumeOrders$Flow" "stack" "[I") ∈ TW := in_t1 141 (by decide +kernel) rfl
theorem tw_215 : (Jvm.Cond.classLink "FlumeOrders" (30 : Nat) "FlumeOrders$Row") ∈ TW := in_t1 144 (by decide +kernel) rfl
theorem tw_216 : (Jvm.Cond.instantiable "FlumeOrders$Row" (6 : Nat)) ∈ TW := in_t1 145 (by decide +kernel) rfl
theorem tw_218 : (Jvm.Cond.instanceMethod ({ cls := "FlumeOrders$Row", name := "<init>", desc := "()V" } : Jvm.MethodName)) ∈ TW := in_t1 147 (by decide +kernel) rfl
theorem tw_219 : (Jvm.Cond.code ({ cls := "FlumeOrders$Row", name := "<init>", desc := "()V" } : Jvm.MethodName) prog_10_method_1_code (1 : Nat) (Option.none : Option Jvm.ClassFile.FieldType)) ∈ TW := in_t1 148 (by decide +kernel) rfl
theorem tw_220 : (Jvm.Cond.methodLink "FlumeOrders$Row" (3 : Nat) ({ cls := "java/lang/Object", name := "<init>", desc := "()V" } : Jvm.MethodName)) ∈ TW := in_t1 149 (by decide +kernel) rfl
theorem tw_221 : (Jvm.Cond.fieldLink "FlumeOrders$Row" (9 : Nat) "FlumeOrders$Row" "told" "[I") ∈ TW := in_t1 150 (by decide +kernel) rfl
theorem tw_222 : (Jvm.Cond.fieldLink "FlumeOrders$Row" (15 : Nat) "FlumeOrders$Row" "thrown" "[I") ∈ TW := in_t1 151 (by decide +kernel) rfl
theorem tw_223 : (Jvm.Cond.fieldLink "FlumeOrders$Row" (18 : Nat) "FlumeOrders$Row" "comes" "[I") ∈ TW := in_t1 152 (by decide +kernel) rfl
theorem tw_224 : (Jvm.Cond.fieldLink "FlumeOrders$Row" (21 : Nat) "FlumeOrders$Row" "first" "[I") ∈ TW := in_t1 153 (by decide +kernel) rfl
theorem tw_225 : (Jvm.Cond.fieldLink "FlumeOrders" (274 : Nat) "FlumeOrders$Row" "first" "[I") ∈ TW := in_t1 154 (by decide +kernel) rfl
theorem tw_226 : (Jvm.Cond.fieldLink "FlumeOrders$Row" (24 : Nat) "FlumeOrders$Row" "size" "I") ∈ TW := in_t1 155 (by decide +kernel) rfl
theorem tw_227 : (Jvm.Cond.fieldLink "FlumeOrders" (273 : Nat) "FlumeOrders$Row" "size" "I") ∈ TW := in_t1 156 (by decide +kernel) rfl
theorem tw_228 : (Jvm.Cond.fieldLink "FlumeOrders$Row" (37 : Nat) "FlumeOrders$Row" "found" "I") ∈ TW := in_t1 157 (by decide +kernel) rfl
theorem tw_229 : (Jvm.Cond.fieldLink "FlumeOrders" (270 : Nat) "FlumeOrders$Row" "found" "I") ∈ TW := in_t1 158 (by decide +kernel) rfl
theorem tw_230 : (Jvm.Cond.laysFinal "FlumeOrders$Row" "FlumeOrders$Row" "told" "[I") ∈ TW := in_t1 159 (by decide +kernel) rfl
theorem tw_232 : (Jvm.Cond.laysFinal "FlumeOrders$Row" "FlumeOrders$Row" "thrown" "[I") ∈ TW := in_t1 161 (by decide +kernel) rfl
theorem tw_234 : (Jvm.Cond.laysFinal "FlumeOrders$Row" "FlumeOrders$Row" "comes" "[I") ∈ TW := in_t1 163 (by decide +kernel) rfl
theorem tw_236 : (Jvm.Cond.laysFinal "FlumeOrders$Row" "FlumeOrders$Row" "first" "[I") ∈ TW := in_t1 165 (by decide +kernel) rfl
theorem tw_238 : (Jvm.Cond.lays "FlumeOrders$Row" "FlumeOrders$Row" "size" "I") ∈ TW := in_t1 167 (by decide +kernel) rfl
theorem tw_240 : (Jvm.Cond.lays "FlumeOrders$Row" "FlumeOrders$Row" "found" "I") ∈ TW := in_t1 169 (by decide +kernel) rfl
theorem tw_243 : (Jvm.Cond.classLink "FlumeOrders" (37 : Nat) "FlumeOrders$Forest") ∈ TW := in_t1 172 (by decide +kernel) rfl
theorem tw_244 : (Jvm.Cond.instantiable "FlumeOrders$Forest" (14 : Nat)) ∈ TW := in_t1 173 (by decide +kernel) rfl
theorem tw_245 : (Jvm.Cond.methodLink "FlumeOrders" (39 : Nat) ({ cls := "FlumeOrders$Forest", name := "<init>", desc := "()V" } : Jvm.MethodName)) ∈ TW := in_t1 174 (by decide +kernel) rfl
theorem tw_246 : (Jvm.Cond.instanceMethod ({ cls := "FlumeOrders$Forest", name := "<init>", desc := "()V" } : Jvm.MethodName)) ∈ TW := in_t1 175 (by decide +kernel) rfl
theorem tw_247 : (Jvm.Cond.code ({ cls := "FlumeOrders$Forest", name := "<init>", desc := "()V" } : Jvm.MethodName) prog_6_method_1_code (2 : Nat) (Option.none : Option Jvm.ClassFile.FieldType)) ∈ TW := in_t1 176 (by decide +kernel) rfl
theorem tw_248 : (Jvm.Cond.methodLink "FlumeOrders$Forest" (3 : Nat) ({ cls := "java/lang/Object", name := "<init>", desc := "()V" } : Jvm.MethodName)) ∈ TW := in_t1 177 (by decide +kernel) rfl
theorem tw_249 : (Jvm.Cond.classLink "FlumeOrders$Forest" (9 : Nat) "FlumeOrders$Camp") ∈ TW := in_t1 178 (by decide +kernel) rfl
theorem tw_251 : (Jvm.Cond.classLink "FlumeOrders$Forest" (17 : Nat) "FlumeOrders$Reach") ∈ TW := in_t1 180 (by decide +kernel) rfl
theorem tw_253 : (Jvm.Cond.classLink "FlumeOrders$Forest" (23 : Nat) "FlumeOrders$Chip") ∈ TW := in_t1 182 (by decide +kernel) rfl
theorem tw_255 : (Jvm.Cond.classLink "FlumeOrders$Forest" (33 : Nat) "FlumeOrders$Orders") ∈ TW := in_t1 184 (by decide +kernel) rfl
theorem tw_256 : (Jvm.Cond.instantiable "FlumeOrders$Orders" (6 : Nat)) ∈ TW := in_t1 185 (by decide +kernel) rfl
theorem tw_258 : (Jvm.Cond.instanceMethod ({ cls := "FlumeOrders$Orders", name := "<init>", desc := "()V" } : Jvm.MethodName)) ∈ TW := in_t1 187 (by decide +kernel) rfl
theorem tw_259 : (Jvm.Cond.code ({ cls := "FlumeOrders$Orders", name := "<init>", desc := "()V" } : Jvm.MethodName) prog_8_method_1_code (1 : Nat) (Option.none : Option Jvm.ClassFile.FieldType)) ∈ TW := in_t1 188 (by decide +kernel) rfl
theorem tw_260 : (Jvm.Cond.methodLink "FlumeOrders$Orders" (3 : Nat) ({ cls := "java/lang/Object", name := "<init>", desc := "()V" } : Jvm.MethodName)) ∈ TW := in_t1 189 (by decide +kernel) rfl
theorem tw_261 : (Jvm.Cond.classLink "FlumeOrders$Orders" (18 : Nat) "[[I") ∈ TW := in_t1 190 (by decide +kernel) rfl
theorem tw_263 : (Jvm.Cond.fieldLink "FlumeOrders$Orders" (9 : Nat) "FlumeOrders$Orders" "camps" "[I") ∈ TW := in_t1 192 (by decide +kernel) rfl
theorem tw_264 : (Jvm.Cond.fieldLink "FlumeOrders$Orders" (15 : Nat) "FlumeOrders$Orders" "weights" "[I") ∈ TW := in_t1 193 (by decide +kernel) rfl
theorem tw_265 : (Jvm.Cond.fieldLink "FlumeOrders$Orders" (20 : Nat) "FlumeOrders$Orders" "ahead" "[[I") ∈ TW := in_t1 194 (by decide +kernel) rfl
theorem tw_266 : (Jvm.Cond.fieldLink "FlumeOrders" (241 : Nat) "FlumeOrders$Orders" "ahead" "[[I") ∈ TW := in_t1 195 (by decide +kernel) rfl
theorem tw_267 : (Jvm.Cond.fieldLink "FlumeOrders$Orders" (29 : Nat) "FlumeOrders$Orders" "size" "I") ∈ TW := in_t1 196 (by decide +kernel) rfl
theorem tw_268 : (Jvm.Cond.fieldLink "FlumeOrders" (233 : Nat) "FlumeOrders$Orders" "size" "I") ∈ TW := in_t1 197 (by decide +kernel) rfl
theorem tw_269 : (Jvm.Cond.fieldLink "FlumeOrders$Orders" (23 : Nat) "FlumeOrders$Orders" "starts" "[I") ∈ TW := in_t1 198 (by decide +kernel) rfl
theorem tw_270 : (Jvm.Cond.fieldLink "FlumeOrders" (252 : Nat) "FlumeOrders$Orders" "starts" "[I") ∈ TW := in_t1 199 (by decide +kernel) rfl
theorem tw_271 : (Jvm.Cond.fieldLink "FlumeOrders$Orders" (26 : Nat) "FlumeOrders$Orders" "ways" "[I") ∈ TW := in_t1 200 (by decide +kernel) rfl
theorem tw_272 : (Jvm.Cond.laysFinal "FlumeOrders$Orders" "FlumeOrders$Orders" "camps" "[I") ∈ TW := in_t1 201 (by decide +kernel) rfl
theorem tw_274 : (Jvm.Cond.laysFinal "FlumeOrders$Orders" "FlumeOrders$Orders" "weights" "[I") ∈ TW := in_t1 203 (by decide +kernel) rfl
theorem tw_276 : (Jvm.Cond.laysFinal "FlumeOrders$Orders" "FlumeOrders$Orders" "ahead" "[[I") ∈ TW := in_t1 205 (by decide +kernel) rfl
theorem tw_278 : (Jvm.Cond.lays "FlumeOrders$Orders" "FlumeOrders$Orders" "size" "I") ∈ TW := in_t1 207 (by decide +kernel) rfl
theorem tw_280 : (Jvm.Cond.laysFinal "FlumeOrders$Orders" "FlumeOrders$Orders" "starts" "[I") ∈ TW := in_t1 209 (by decide +kernel) rfl
theorem tw_282 : (Jvm.Cond.laysFinal "FlumeOrders$Orders" "FlumeOrders$Orders" "ways" "[I") ∈ TW := in_t1 211 (by decide +kernel) rfl
theorem tw_285 : (Jvm.Cond.instantiable "FlumeOrders$Camp" (6 : Nat)) ∈ TW := in_t1 214 (by decide +kernel) rfl
theorem tw_287 : (Jvm.Cond.instanceMethod ({ cls := "FlumeOrders$Camp", name := "<init>", desc := "()V" } : Jvm.MethodName)) ∈ TW := in_t1 216 (by decide +kernel) rfl
theorem tw_288 : (Jvm.Cond.code ({ cls := "FlumeOrders$Camp", name := "<init>", desc := "()V" } : Jvm.MethodName) prog_3_method_1_code (1 : Nat) (Option.none : Option Jvm.ClassFile.FieldType)) ∈ TW := in_t1 217 (by decide +kernel) rfl
theorem tw_289 : (Jvm.Cond.methodLink "FlumeOrders$Camp" (1 : Nat) ({ cls := "java/lang/Object", name := "<init>", desc := "()V" } : Jvm.MethodName)) ∈ TW := in_t1 218 (by decide +kernel) rfl
theorem tw_290 : (Jvm.Cond.fieldLink "FlumeOrders$Camp" (7 : Nat) "FlumeOrders$Camp" "trees" "I") ∈ TW := in_t1 219 (by decide +kernel) rfl
theorem tw_291 : (Jvm.Cond.fieldLink "FlumeOrders$Flow" (195 : Nat) "FlumeOrders$Camp" "trees" "I") ∈ TW := in_t1 220 (by decide +kernel) rfl
theorem tw_292 : (Jvm.Cond.fieldLink "FlumeOrders" (174 : Nat) "FlumeOrders$Camp" "trees" "I") ∈ TW := in_t1 221 (by decide +kernel) rfl
theorem tw_293 : (Jvm.Cond.fieldLink "FlumeOrders$Camp" (13 : Nat) "FlumeOrders$Camp" "logs" "I") ∈ TW := in_t1 222 (by decide +kernel) rfl
theorem tw_294 : (Jvm.Cond.fieldLink "FlumeOrders$Flow" (141 : Nat) "FlumeOrders$Camp" "logs" "I") ∈ TW := in_t1 223 (by decide +kernel) rfl
theorem tw_295 : (Jvm.Cond.fieldLink "FlumeOrders" (179 : Nat) "FlumeOrders$Camp" "logs" "I") ∈ TW := in_t1 224 (by decide +kernel) rfl
theorem tw_296 : (Jvm.Cond.fieldLink "FlumeOrders$Camp" (16 : Nat) "FlumeOrders$Camp" "sent" "I") ∈ TW := in_t1 225 (by decide +kernel) rfl
theorem tw_297 : (Jvm.Cond.fieldLink "FlumeOrders$Flow" (198 : Nat) "FlumeOrders$Camp" "sent" "I") ∈ TW := in_t1 226 (by decide +kernel) rfl
theorem tw_298 : (Jvm.Cond.fieldLink "FlumeOrders" (182 : Nat) "FlumeOrders$Camp" "sent" "I") ∈ TW := in_t1 227 (by decide +kernel) rfl
theorem tw_299 : (Jvm.Cond.fieldLink "FlumeOrders$Forest" (206 : Nat) "FlumeOrders$Camp" "sent" "I") ∈ TW := in_t1 228 (by decide +kernel) rfl
theorem tw_300 : (Jvm.Cond.fieldLink "FlumeOrders$Camp" (19 : Nat) "FlumeOrders$Camp" "late" "I") ∈ TW := in_t1 229 (by decide +kernel) rfl
theorem tw_301 : (Jvm.Cond.fieldLink "FlumeOrders" (185 : Nat) "FlumeOrders$Camp" "late" "I") ∈ TW := in_t1 230 (by decide +kernel) rfl
theorem tw_302 : (Jvm.Cond.fieldLink "FlumeOrders$Forest" (209 : Nat) "FlumeOrders$Camp" "late" "I") ∈ TW := in_t1 231 (by decide +kernel) rfl
theorem tw_303 : (Jvm.Cond.fieldLink "FlumeOrders$Camp" (22 : Nat) "FlumeOrders$Camp" "voided" "J") ∈ TW := in_t1 232 (by decide +kernel) rfl
theorem tw_304 : (Jvm.Cond.fieldLink "FlumeOrders$Flow" (102 : Nat) "FlumeOrders$Camp" "voided" "J") ∈ TW := in_t1 233 (by decide +kernel) rfl
theorem tw_305 : (Jvm.Cond.fieldLink "FlumeOrders$Camp" (26 : Nat) "FlumeOrders$Camp" "done" "J") ∈ TW := in_t1 234 (by decide +kernel) rfl
theorem tw_306 : (Jvm.Cond.fieldLink "FlumeOrders$Flow" (152 : Nat) "FlumeOrders$Camp" "done" "J") ∈ TW := in_t1 235 (by decide +kernel) rfl
theorem tw_307 : (Jvm.Cond.lays "FlumeOrders$Camp" "FlumeOrders$Camp" "trees" "I") ∈ TW := in_t1 236 (by decide +kernel) rfl
theorem tw_309 : (Jvm.Cond.lays "FlumeOrders$Camp" "FlumeOrders$Camp" "logs" "I") ∈ TW := in_t1 238 (by decide +kernel) rfl
theorem tw_311 : (Jvm.Cond.lays "FlumeOrders$Camp" "FlumeOrders$Camp" "sent" "I") ∈ TW := in_t2 0 (by decide +kernel) rfl
theorem tw_313 : (Jvm.Cond.lays "FlumeOrders$Camp" "FlumeOrders$Camp" "late" "I") ∈ TW := in_t2 2 (by decide +kernel) rfl
theorem tw_315 : (Jvm.Cond.lays "FlumeOrders$Camp" "FlumeOrders$Camp" "voided" "J") ∈ TW := in_t2 4 (by decide +kernel) rfl
theorem tw_317 : (Jvm.Cond.lays "FlumeOrders$Camp" "FlumeOrders$Camp" "done" "J") ∈ TW := in_t2 6 (by decide +kernel) rfl
theorem tw_320 : (Jvm.Cond.instantiable "FlumeOrders$Reach" (4 : Nat)) ∈ TW := in_t2 9 (by decide +kernel) rfl
theorem tw_322 : (Jvm.Cond.instanceMethod ({ cls := "FlumeOrders$Reach", name := "<init>", desc := "()V" } : Jvm.MethodName)) ∈ TW := in_t2 11 (by decide +kernel) rfl
theorem tw_323 : (Jvm.Cond.code ({ cls := "FlumeOrders$Reach", name := "<init>", desc := "()V" } : Jvm.MethodName) prog_9_method_1_code (1 : Nat) (Option.none : Option Jvm.ClassFile.FieldType)) ∈ TW := in_t2 12 (by decide +kernel) rfl
theorem tw_324 : (Jvm.Cond.methodLink "FlumeOrders$Reach" (1 : Nat) ({ cls := "java/lang/Object", name := "<init>", desc := "()V" } : Jvm.MethodName)) ∈ TW := in_t2 13 (by decide +kernel) rfl
theorem tw_325 : (Jvm.Cond.fieldLink "FlumeOrders$Reach" (7 : Nat) "FlumeOrders$Reach" "length" "I") ∈ TW := in_t2 14 (by decide +kernel) rfl
theorem tw_326 : (Jvm.Cond.fieldLink "FlumeOrders$Forest" (159 : Nat) "FlumeOrders$Reach" "length" "I") ∈ TW := in_t2 15 (by decide +kernel) rfl
theorem tw_327 : (Jvm.Cond.fieldLink "FlumeOrders$Flow" (227 : Nat) "FlumeOrders$Reach" "length" "I") ∈ TW := in_t2 16 (by decide +kernel) rfl
theorem tw_328 : (Jvm.Cond.fieldLink "FlumeOrders" (192 : Nat) "FlumeOrders$Reach" "length" "I") ∈ TW := in_t2 17 (by decide +kernel) rfl
theorem tw_329 : (Jvm.Cond.fieldLink "FlumeOrders$Reach" (19 : Nat) "FlumeOrders$Reach" "stick" "I") ∈ TW := in_t2 18 (by decide +kernel) rfl
theorem tw_330 : (Jvm.Cond.fieldLink "FlumeOrders$Forest" (162 : Nat) "FlumeOrders$Reach" "stick" "I") ∈ TW := in_t2 19 (by decide +kernel) rfl
theorem tw_331 : (Jvm.Cond.fieldLink "FlumeOrders$Flow" (220 : Nat) "FlumeOrders$Reach" "stick" "I") ∈ TW := in_t2 20 (by decide +kernel) rfl
theorem tw_332 : (Jvm.Cond.fieldLink "FlumeOrders" (197 : Nat) "FlumeOrders$Reach" "stick" "I") ∈ TW := in_t2 21 (by decide +kernel) rfl
theorem tw_333 : (Jvm.Cond.fieldLink "FlumeOrders$Reach" (13 : Nat) "FlumeOrders$Reach" "bend" "I") ∈ TW := in_t2 22 (by decide +kernel) rfl
theorem tw_334 : (Jvm.Cond.fieldLink "FlumeOrders$Forest" (165 : Nat) "FlumeOrders$Reach" "bend" "I") ∈ TW := in_t2 23 (by decide +kernel) rfl
theorem tw_335 : (Jvm.Cond.fieldLink "FlumeOrders" (200 : Nat) "FlumeOrders$Reach" "bend" "I") ∈ TW := in_t2 24 (by decide +kernel) rfl
theorem tw_336 : (Jvm.Cond.fieldLink "FlumeOrders$Reach" (16 : Nat) "FlumeOrders$Reach" "inside" "I") ∈ TW := in_t2 25 (by decide +kernel) rfl
theorem tw_337 : (Jvm.Cond.fieldLink "FlumeOrders$Flow" (78 : Nat) "FlumeOrders$Reach" "inside" "I") ∈ TW := in_t2 26 (by decide +kernel) rfl
theorem tw_338 : (Jvm.Cond.fieldLink "FlumeOrders$Forest" (156 : Nat) "FlumeOrders$Reach" "inside" "I") ∈ TW := in_t2 27 (by decide +kernel) rfl
theorem tw_339 : (Jvm.Cond.fieldLink "FlumeOrders" (203 : Nat) "FlumeOrders$Reach" "inside" "I") ∈ TW := in_t2 28 (by decide +kernel) rfl
theorem tw_340 : (Jvm.Cond.lays "FlumeOrders$Reach" "FlumeOrders$Reach" "length" "I") ∈ TW := in_t2 29 (by decide +kernel) rfl
theorem tw_342 : (Jvm.Cond.lays "FlumeOrders$Reach" "FlumeOrders$Reach" "stick" "I") ∈ TW := in_t2 31 (by decide +kernel) rfl
theorem tw_344 : (Jvm.Cond.lays "FlumeOrders$Reach" "FlumeOrders$Reach" "bend" "I") ∈ TW := in_t2 33 (by decide +kernel) rfl
theorem tw_346 : (Jvm.Cond.lays "FlumeOrders$Reach" "FlumeOrders$Reach" "inside" "I") ∈ TW := in_t2 35 (by decide +kernel) rfl
theorem tw_349 : (Jvm.Cond.instantiable "FlumeOrders$Chip" (7 : Nat)) ∈ TW := in_t2 38 (by decide +kernel) rfl
theorem tw_351 : (Jvm.Cond.instanceMethod ({ cls := "FlumeOrders$Chip", name := "<init>", desc := "()V" } : Jvm.MethodName)) ∈ TW := in_t2 40 (by decide +kernel) rfl
theorem tw_352 : (Jvm.Cond.code ({ cls := "FlumeOrders$Chip", name := "<init>", desc := "()V" } : Jvm.MethodName) prog_4_method_1_code (1 : Nat) (Option.none : Option Jvm.ClassFile.FieldType)) ∈ TW := in_t2 41 (by decide +kernel) rfl
theorem tw_353 : (Jvm.Cond.methodLink "FlumeOrders$Chip" (1 : Nat) ({ cls := "java/lang/Object", name := "<init>", desc := "()V" } : Jvm.MethodName)) ∈ TW := in_t2 42 (by decide +kernel) rfl
theorem tw_354 : (Jvm.Cond.fieldLink "FlumeOrders$Chip" (7 : Nat) "FlumeOrders$Chip" "state" "I") ∈ TW := in_t2 43 (by decide +kernel) rfl
theorem tw_355 : (Jvm.Cond.fieldLink "FlumeOrders$Flow" (44 : Nat) "FlumeOrders$Chip" "state" "I") ∈ TW := in_t2 44 (by decide +kernel) rfl
theorem tw_356 : (Jvm.Cond.fieldLink "FlumeOrders$Forest" (168 : Nat) "FlumeOrders$Chip" "state" "I") ∈ TW := in_t2 45 (by decide +kernel) rfl
theorem tw_357 : (Jvm.Cond.fieldLink "FlumeOrders" (144 : Nat) "FlumeOrders$Chip" "state" "I") ∈ TW := in_t2 46 (by decide +kernel) rfl
theorem tw_358 : (Jvm.Cond.fieldLink "FlumeOrders$Chip" (13 : Nat) "FlumeOrders$Chip" "place" "I") ∈ TW := in_t2 47 (by decide +kernel) rfl
theorem tw_359 : (Jvm.Cond.fieldLink "FlumeOrders$Flow" (71 : Nat) "FlumeOrders$Chip" "place" "I") ∈ TW := in_t2 48 (by decide +kernel) rfl
theorem tw_360 : (Jvm.Cond.fieldLink "FlumeOrders$Forest" (171 : Nat) "FlumeOrders$Chip" "place" "I") ∈ TW := in_t2 49 (by decide +kernel) rfl
theorem tw_361 : (Jvm.Cond.fieldLink "FlumeOrders" (149 : Nat) "FlumeOrders$Chip" "place" "I") ∈ TW := in_t2 50 (by decide +kernel) rfl
theorem tw_362 : (Jvm.Cond.fieldLink "FlumeOrders$Chip" (16 : Nat) "FlumeOrders$Chip" "toGo" "I") ∈ TW := in_t2 51 (by decide +kernel) rfl
theorem tw_363 : (Jvm.Cond.fieldLink "FlumeOrders$Flow" (49 : Nat) "FlumeOrders$Chip" "toGo" "I") ∈ TW := in_t2 52 (by decide +kernel) rfl
theorem tw_364 : (Jvm.Cond.fieldLink "FlumeOrders$Forest" (174 : Nat) "FlumeOrders$Chip" "toGo" "I") ∈ TW := in_t2 53 (by decide +kernel) rfl
theorem tw_365 : (Jvm.Cond.fieldLink "FlumeOrders" (152 : Nat) "FlumeOrders$Chip" "toGo" "I") ∈ TW := in_t2 54 (by decide +kernel) rfl
theorem tw_366 : (Jvm.Cond.fieldLink "FlumeOrders$Chip" (19 : Nat) "FlumeOrders$Chip" "weight" "I") ∈ TW := in_t2 55 (by decide +kernel) rfl
theorem tw_367 : (Jvm.Cond.fieldLink "FlumeOrders$Flow" (207 : Nat) "FlumeOrders$Chip" "weight" "I") ∈ TW := in_t2 56 (by decide +kernel) rfl
theorem tw_368 : (Jvm.Cond.fieldLink "FlumeOrders$Forest" (177 : Nat) "FlumeOrders$Chip" "weight" "I") ∈ TW := in_t2 57 (by decide +kernel) rfl
theorem tw_369 : (Jvm.Cond.fieldLink "FlumeOrders" (155 : Nat) "FlumeOrders$Chip" "weight" "I") ∈ TW := in_t2 58 (by decide +kernel) rfl
theorem tw_370 : (Jvm.Cond.fieldLink "FlumeOrders$Chip" (22 : Nat) "FlumeOrders$Chip" "came" "I") ∈ TW := in_t2 59 (by decide +kernel) rfl
theorem tw_371 : (Jvm.Cond.fieldLink "FlumeOrders$Flow" (83 : Nat) "FlumeOrders$Chip" "came" "I") ∈ TW := in_t2 60 (by decide +kernel) rfl
theorem tw_372 : (Jvm.Cond.fieldLink "FlumeOrders$Forest" (180 : Nat) "FlumeOrders$Chip" "came" "I") ∈ TW := in_t2 61 (by decide +kernel) rfl
theorem tw_373 : (Jvm.Cond.fieldLink "FlumeOrders" (158 : Nat) "FlumeOrders$Chip" "came" "I") ∈ TW := in_t2 62 (by decide +kernel) rfl
theorem tw_374 : (Jvm.Cond.fieldLink "FlumeOrders$Chip" (25 : Nat) "FlumeOrders$Chip" "told" "I") ∈ TW := in_t2 63 (by decide +kernel) rfl
theorem tw_375 : (Jvm.Cond.fieldLink "FlumeOrders$Forest" (183 : Nat) "FlumeOrders$Chip" "told" "I") ∈ TW := in_t2 64 (by decide +kernel) rfl
theorem tw_376 : (Jvm.Cond.fieldLink "FlumeOrders" (161 : Nat) "FlumeOrders$Chip" "told" "I") ∈ TW := in_t2 65 (by decide +kernel) rfl
theorem tw_377 : (Jvm.Cond.fieldLink "FlumeOrders$Chip" (28 : Nat) "FlumeOrders$Chip" "head" "I") ∈ TW := in_t2 66 (by decide +kernel) rfl
theorem tw_378 : (Jvm.Cond.fieldLink "FlumeOrders$Flow" (92 : Nat) "FlumeOrders$Chip" "head" "I") ∈ TW := in_t2 67 (by decide +kernel) rfl
theorem tw_379 : (Jvm.Cond.fieldLink "FlumeOrders$Forest" (186 : Nat) "FlumeOrders$Chip" "head" "I") ∈ TW := in_t2 68 (by decide +kernel) rfl
theorem tw_380 : (Jvm.Cond.lays "FlumeOrders$Chip" "FlumeOrders$Chip" "state" "I") ∈ TW := in_t2 69 (by decide +kernel) rfl
theorem tw_382 : (Jvm.Cond.lays "FlumeOrders$Chip" "FlumeOrders$Chip" "place" "I") ∈ TW := in_t2 71 (by decide +kernel) rfl
theorem tw_384 : (Jvm.Cond.lays "FlumeOrders$Chip" "FlumeOrders$Chip" "toGo" "I") ∈ TW := in_t2 73 (by decide +kernel) rfl
theorem tw_386 : (Jvm.Cond.lays "FlumeOrders$Chip" "FlumeOrders$Chip" "weight" "I") ∈ TW := in_t2 75 (by decide +kernel) rfl
theorem tw_388 : (Jvm.Cond.lays "FlumeOrders$Chip" "FlumeOrders$Chip" "came" "I") ∈ TW := in_t2 77 (by decide +kernel) rfl
theorem tw_390 : (Jvm.Cond.lays "FlumeOrders$Chip" "FlumeOrders$Chip" "told" "I") ∈ TW := in_t2 79 (by decide +kernel) rfl
theorem tw_392 : (Jvm.Cond.lays "FlumeOrders$Chip" "FlumeOrders$Chip" "head" "I") ∈ TW := in_t2 81 (by decide +kernel) rfl
theorem tw_395 : (Jvm.Cond.fieldLink "FlumeOrders$Forest" (11 : Nat) "FlumeOrders$Forest" "camps" "[LFlumeOrders$Camp;") ∈ TW := in_t2 84 (by decide +kernel) rfl
theorem tw_396 : (Jvm.Cond.fieldLink "FlumeOrders$Flow" (98 : Nat) "FlumeOrders$Forest" "camps" "[LFlumeOrders$Camp;") ∈ TW := in_t2 85 (by decide +kernel) rfl
theorem tw_397 : (Jvm.Cond.fieldLink "FlumeOrders" (170 : Nat) "FlumeOrders$Forest" "camps" "[LFlumeOrders$Camp;") ∈ TW := in_t2 86 (by decide +kernel) rfl
theorem tw_398 : (Jvm.Cond.fieldLink "FlumeOrders$Forest" (19 : Nat) "FlumeOrders$Forest" "reaches" "[LFlumeOrders$Reach;") ∈ TW := in_t2 87 (by decide +kernel) rfl
theorem tw_399 : (Jvm.Cond.fieldLink "FlumeOrders$Flow" (74 : Nat) "FlumeOrders$Forest" "reaches" "[LFlumeOrders$Reach;") ∈ TW := in_t2 88 (by decide +kernel) rfl
theorem tw_400 : (Jvm.Cond.fieldLink "FlumeOrders" (188 : Nat) "FlumeOrders$Forest" "reaches" "[LFlumeOrders$Reach;") ∈ TW := in_t2 89 (by decide +kernel) rfl
theorem tw_401 : (Jvm.Cond.fieldLink "FlumeOrders$Forest" (25 : Nat) "FlumeOrders$Forest" "chips" "[LFlumeOrders$Chip;") ∈ TW := in_t2 90 (by decide +kernel) rfl
theorem tw_402 : (Jvm.Cond.fieldLink "FlumeOrders$Flow" (40 : Nat) "FlumeOrders$Forest" "chips" "[LFlumeOrders$Chip;") ∈ TW := in_t2 91 (by decide +kernel) rfl
theorem tw_403 : (Jvm.Cond.fieldLink "FlumeOrders" (140 : Nat) "FlumeOrders$Forest" "chips" "[LFlumeOrders$Chip;") ∈ TW := in_t2 92 (by decide +kernel) rfl
theorem tw_404 : (Jvm.Cond.fieldLink "FlumeOrders$Forest" (29 : Nat) "FlumeOrders$Forest" "outs" "[I") ∈ TW := in_t2 93 (by decide +kernel) rfl
theorem tw_405 : (Jvm.Cond.fieldLink "FlumeOrders$Flow" (89 : Nat) "FlumeOrders$Forest" "outs" "[I") ∈ TW := in_t2 94 (by decide +kernel) rfl
theorem tw_406 : (Jvm.Cond.fieldLink "FlumeOrders" (206 : Nat) "FlumeOrders$Forest" "outs" "[I") ∈ TW := in_t2 95 (by decide +kernel) rfl
theorem tw_407 : (Jvm.Cond.fieldLink "FlumeOrders$Forest" (36 : Nat) "FlumeOrders$Forest" "orders" "LFlumeOrders$Orders;") ∈ TW := in_t2 96 (by decide +kernel) rfl
theorem tw_408 : (Jvm.Cond.fieldLink "FlumeOrders" (229 : Nat) "FlumeOrders$Forest" "orders" "LFlumeOrders$Orders;") ∈ TW := in_t2 97 (by decide +kernel) rfl
theorem tw_409 : (Jvm.Cond.fieldLink "FlumeOrders$Forest" (50 : Nat) "FlumeOrders$Forest" "campCount" "I") ∈ TW := in_t2 98 (by decide +kernel) rfl
theorem tw_410 : (Jvm.Cond.fieldLink "FlumeOrders$Flow" (56 : Nat) "FlumeOrders$Forest" "campCount" "I") ∈ TW := in_t2 99 (by decide +kernel) rfl
theorem tw_411 : (Jvm.Cond.fieldLink "FlumeOrders" (91 : Nat) "FlumeOrders$Forest" "campCount" "I") ∈ TW := in_t2 100 (by decide +kernel) rfl
theorem tw_412 : (Jvm.Cond.fieldLink "FlumeOrders$Forest" (53 : Nat) "FlumeOrders$Forest" "chipCount" "I") ∈ TW := in_t2 101 (by decide +kernel) rfl
theorem tw_413 : (Jvm.Cond.fieldLink "FlumeOrders$Flow" (36 : Nat) "FlumeOrders$Forest" "chipCount" "I") ∈ TW := in_t2 102 (by decide +kernel) rfl
theorem tw_414 : (Jvm.Cond.fieldLink "FlumeOrders" (104 : Nat) "FlumeOrders$Forest" "chipCount" "I") ∈ TW := in_t2 103 (by decide +kernel) rfl
theorem tw_415 : (Jvm.Cond.fieldLink "FlumeOrders$Forest" (56 : Nat) "FlumeOrders$Forest" "outCount" "I") ∈ TW := in_t2 104 (by decide +kernel) rfl
theorem tw_416 : (Jvm.Cond.fieldLink "FlumeOrders$Flow" (86 : Nat) "FlumeOrders$Forest" "outCount" "I") ∈ TW := in_t2 105 (by decide +kernel) rfl
theorem tw_417 : (Jvm.Cond.fieldLink "FlumeOrders" (120 : Nat) "FlumeOrders$Forest" "outCount" "I") ∈ TW := in_t2 106 (by decide +kernel) rfl
theorem tw_418 : (Jvm.Cond.fieldLink "FlumeOrders$Forest" (59 : Nat) "FlumeOrders$Forest" "textCount" "I") ∈ TW := in_t2 107 (by decide +kernel) rfl
theorem tw_419 : (Jvm.Cond.fieldLink "FlumeOrders" (85 : Nat) "FlumeOrders$Forest" "textCount" "I") ∈ TW := in_t2 108 (by decide +kernel) rfl
theorem tw_420 : (Jvm.Cond.fieldLink "FlumeOrders$Forest" (40 : Nat) "FlumeOrders$Forest" "water" "I") ∈ TW := in_t2 109 (by decide +kernel) rfl
theorem tw_421 : (Jvm.Cond.fieldLink "FlumeOrders$Orders" (39 : Nat) "FlumeOrders$Forest" "water" "I") ∈ TW := in_t2 110 (by decide +kernel) rfl
theorem tw_422 : (Jvm.Cond.fieldLink "FlumeOrders$Flow" (201 : Nat) "FlumeOrders$Forest" "water" "I") ∈ TW := in_t2 111 (by decide +kernel) rfl
theorem tw_423 : (Jvm.Cond.fieldLink "FlumeOrders" (137 : Nat) "FlumeOrders$Forest" "water" "I") ∈ TW := in_t2 112 (by decide +kernel) rfl
theorem tw_424 : (Jvm.Cond.fieldLink "FlumeOrders$Forest" (62 : Nat) "FlumeOrders$Forest" "frostFrom" "I") ∈ TW := in_t2 113 (by decide +kernel) rfl
theorem tw_425 : (Jvm.Cond.fieldLink "FlumeOrders$Forest" (65 : Nat) "FlumeOrders$Forest" "frostTo" "I") ∈ TW := in_t2 114 (by decide +kernel) rfl
theorem tw_426 : (Jvm.Cond.fieldLink "FlumeOrders$Forest" (68 : Nat) "FlumeOrders$Forest" "clock" "I") ∈ TW := in_t2 115 (by decide +kernel) rfl
theorem tw_427 : (Jvm.Cond.fieldLink "FlumeOrders$Flow" (62 : Nat) "FlumeOrders$Forest" "clock" "I") ∈ TW := in_t2 116 (by decide +kernel) rfl
theorem tw_428 : (Jvm.Cond.fieldLink "FlumeOrders" (292 : Nat) "FlumeOrders$Forest" "clock" "I") ∈ TW := in_t2 117 (by decide +kernel) rfl
theorem tw_429 : (Jvm.Cond.fieldLink "FlumeOrders$Forest" (44 : Nat) "FlumeOrders$Forest" "seed" "I") ∈ TW := in_t2 118 (by decide +kernel) rfl
theorem tw_430 : (Jvm.Cond.fieldLink "FlumeOrders$Flow" (235 : Nat) "FlumeOrders$Forest" "seed" "I") ∈ TW := in_t2 119 (by decide +kernel) rfl
theorem tw_431 : (Jvm.Cond.laysFinal "FlumeOrders$Forest" "FlumeOrders$Forest" "camps" "[LFlumeOrders$Camp;") ∈ TW := in_t2 120 (by decide +kernel) rfl
theorem tw_433 : (Jvm.Cond.laysFinal "FlumeOrders$Forest" "FlumeOrders$Forest" "reaches" "[LFlumeOrders$Reach;") ∈ TW := in_t2 122 (by decide +kernel) rfl
theorem tw_435 : (Jvm.Cond.laysFinal "FlumeOrders$Forest" "FlumeOrders$Forest" "chips" "[LFlumeOrders$Chip;") ∈ TW := in_t2 124 (by decide +kernel) rfl
theorem tw_437 : (Jvm.Cond.laysFinal "FlumeOrders$Forest" "FlumeOrders$Forest" "outs" "[I") ∈ TW := in_t2 126 (by decide +kernel) rfl
theorem tw_439 : (Jvm.Cond.laysFinal "FlumeOrders$Forest" "FlumeOrders$Forest" "orders" "LFlumeOrders$Orders;") ∈ TW := in_t2 128 (by decide +kernel) rfl
theorem tw_441 : (Jvm.Cond.lays "FlumeOrders$Forest" "FlumeOrders$Forest" "campCount" "I") ∈ TW := in_t2 130 (by decide +kernel) rfl
theorem tw_443 : (Jvm.Cond.lays "FlumeOrders$Forest" "FlumeOrders$Forest" "chipCount" "I") ∈ TW := in_t2 132 (by decide +kernel) rfl
theorem tw_445 : (Jvm.Cond.lays "FlumeOrders$Forest" "FlumeOrders$Forest" "outCount" "I") ∈ TW := in_t2 134 (by decide +kernel) rfl
theorem tw_447 : (Jvm.Cond.lays "FlumeOrders$Forest" "FlumeOrders$Forest" "textCount" "I") ∈ TW := in_t2 136 (by decide +kernel) rfl
theorem tw_449 : (Jvm.Cond.lays "FlumeOrders$Forest" "FlumeOrders$Forest" "water" "I") ∈ TW := in_t2 138 (by decide +kernel) rfl
theorem tw_451 : (Jvm.Cond.lays "FlumeOrders$Forest" "FlumeOrders$Forest" "frostFrom" "I") ∈ TW := in_t2 140 (by decide +kernel) rfl
theorem tw_453 : (Jvm.Cond.lays "FlumeOrders$Forest" "FlumeOrders$Forest" "frostTo" "I") ∈ TW := in_t2 142 (by decide +kernel) rfl
theorem tw_455 : (Jvm.Cond.lays "FlumeOrders$Forest" "FlumeOrders$Forest" "clock" "I") ∈ TW := in_t2 144 (by decide +kernel) rfl
theorem tw_457 : (Jvm.Cond.lays "FlumeOrders$Forest" "FlumeOrders$Forest" "seed" "I") ∈ TW := in_t2 146 (by decide +kernel) rfl
theorem tw_460 : (Jvm.Cond.fieldLink "FlumeOrders" (10 : Nat) "FlumeOrders" "tape" "LFlumeOrders$Tape;") ∈ TW := in_t2 149 (by decide +kernel) rfl
theorem tw_461 : (Jvm.Cond.fieldLink "FlumeOrders" (19 : Nat) "FlumeOrders" "things" "LFlumeOrders$Things;") ∈ TW := in_t2 150 (by decide +kernel) rfl
theorem tw_462 : (Jvm.Cond.fieldLink "FlumeOrders" (26 : Nat) "FlumeOrders" "flow" "LFlumeOrders$Flow;") ∈ TW := in_t2 151 (by decide +kernel) rfl
theorem tw_463 : (Jvm.Cond.fieldLink "FlumeOrders" (33 : Nat) "FlumeOrders" "row" "LFlumeOrders$Row;") ∈ TW := in_t2 152 (by decide +kernel) rfl
theorem tw_464 : (Jvm.Cond.fieldLink "FlumeOrders" (40 : Nat) "FlumeOrders" "now" "LFlumeOrders$Forest;") ∈ TW := in_t2 153 (by decide +kernel) rfl
theorem tw_465 : (Jvm.Cond.fieldLink "FlumeOrders" (44 : Nat) "FlumeOrders" "kept" "LFlumeOrders$Forest;") ∈ TW := in_t2 154 (by decide +kernel) rfl
theorem tw_466 : (Jvm.Cond.fieldLink "FlumeOrders" (47 : Nat) "FlumeOrders" "trial" "LFlumeOrders$Forest;") ∈ TW := in_t2 155 (by decide +kernel) rfl
theorem tw_467 : (Jvm.Cond.fieldLink "FlumeOrders" (288 : Nat) "FlumeOrders" "isKept" "Z") ∈ TW := in_t2 156 (by decide +kernel) rfl
theorem tw_468 : (Jvm.Cond.laysFinal "FlumeOrders" "FlumeOrders" "tape" "LFlumeOrders$Tape;") ∈ TW := in_t2 157 (by decide +kernel) rfl
theorem tw_470 : (Jvm.Cond.laysFinal "FlumeOrders" "FlumeOrders" "things" "LFlumeOrders$Things;") ∈ TW := in_t2 159 (by decide +kernel) rfl
theorem tw_472 : (Jvm.Cond.laysFinal "FlumeOrders" "FlumeOrders" "flow" "LFlumeOrders$Flow;") ∈ TW := in_t2 161 (by decide +kernel) rfl
theorem tw_474 : (Jvm.Cond.laysFinal "FlumeOrders" "FlumeOrders" "row" "LFlumeOrders$Row;") ∈ TW := in_t2 163 (by decide +kernel) rfl
theorem tw_476 : (Jvm.Cond.laysFinal "FlumeOrders" "FlumeOrders" "now" "LFlumeOrders$Forest;") ∈ TW := in_t2 165 (by decide +kernel) rfl
theorem tw_478 : (Jvm.Cond.laysFinal "FlumeOrders" "FlumeOrders" "kept" "LFlumeOrders$Forest;") ∈ TW := in_t2 167 (by decide +kernel) rfl
theorem tw_480 : (Jvm.Cond.laysFinal "FlumeOrders" "FlumeOrders" "trial" "LFlumeOrders$Forest;") ∈ TW := in_t2 169 (by decide +kernel) rfl
theorem tw_482 : (Jvm.Cond.lays "FlumeOrders" "FlumeOrders" "isKept" "Z") ∈ TW := in_t2 171 (by decide +kernel) rfl
theorem tw_485 : (Jvm.Cond.methodLink "FlumeOrdersLaw" (78 : Nat) ({ cls := "FlumeOrders", name := "feed", desc := "(IIIII)I" } : Jvm.MethodName)) ∈ TW := in_t2 174 (by decide +kernel) rfl
theorem tw_486 : (Jvm.Cond.instanceMethod ({ cls := "FlumeOrders", name := "feed", desc := "(IIIII)I" } : Jvm.MethodName)) ∈ TW := in_t2 175 (by decide +kernel) rfl
theorem tw_487 : (Jvm.Cond.selects "FlumeOrders" ({ cls := "FlumeOrders", name := "feed", desc := "(IIIII)I" } : Jvm.MethodName) ({ cls := "FlumeOrders", name := "feed", desc := "(IIIII)I" } : Jvm.MethodName)) ∈ TW := in_t2 176 (by decide +kernel) rfl
theorem tw_488 : (Jvm.Cond.code ({ cls := "FlumeOrders", name := "feed", desc := "(IIIII)I" } : Jvm.MethodName) prog_1_method_2_code (6 : Nat) (Option.some Jvm.ClassFile.FieldType.int)) ∈ TW := in_t2 177 (by decide +kernel) rfl
theorem tw_489 : (Jvm.Cond.methodLink "FlumeOrders" (54 : Nat) ({ cls := "FlumeOrders$Tape", name := "add", desc := "(I)V" } : Jvm.MethodName)) ∈ TW := in_t2 178 (by decide +kernel) rfl
theorem tw_490 : (Jvm.Cond.instanceMethod ({ cls := "FlumeOrders$Tape", name := "add", desc := "(I)V" } : Jvm.MethodName)) ∈ TW := in_t2 179 (by decide +kernel) rfl
theorem tw_491 : (Jvm.Cond.selects "FlumeOrders$Tape" ({ cls := "FlumeOrders$Tape", name := "add", desc := "(I)V" } : Jvm.MethodName) ({ cls := "FlumeOrders$Tape", name := "add", desc := "(I)V" } : Jvm.MethodName)) ∈ TW := in_t2 180 (by decide +kernel) rfl
theorem tw_492 : (Jvm.Cond.code ({ cls := "FlumeOrders$Tape", name := "add", desc := "(I)V" } : Jvm.MethodName) prog_11_method_2_code (3 : Nat) (Option.none : Option Jvm.ClassFile.FieldType)) ∈ TW := in_t2 181 (by decide +kernel) rfl
theorem tw_493 : (Jvm.Cond.methodLink "FlumeOrdersLaw" (82 : Nat) ({ cls := "FlumeOrders", name := "end", desc := "(I)Z" } : Jvm.MethodName)) ∈ TW := in_t2 182 (by decide +kernel) rfl
theorem tw_494 : (Jvm.Cond.instanceMethod ({ cls := "FlumeOrders", name := "end", desc := "(I)Z" } : Jvm.MethodName)) ∈ TW := in_t2 183 (by decide +kernel) rfl
theorem tw_495 : (Jvm.Cond.selects "FlumeOrders" ({ cls := "FlumeOrders", name := "end", desc := "(I)Z" } : Jvm.MethodName) ({ cls := "FlumeOrders", name := "end", desc := "(I)Z" } : Jvm.MethodName)) ∈ TW := in_t2 184 (by decide +kernel) rfl
theorem tw_496 : (Jvm.Cond.code ({ cls := "FlumeOrders", name := "end", desc := "(I)Z" } : Jvm.MethodName) prog_1_method_3_code (2 : Nat) (Option.some Jvm.ClassFile.FieldType.boolean)) ∈ TW := in_t2 185 (by decide +kernel) rfl
theorem tw_497 : (Jvm.Cond.methodLink "FlumeOrdersLaw" (100 : Nat) ({ cls := "FlumeOrders", name := "fault", desc := "()I" } : Jvm.MethodName)) ∈ TW := in_t2 186 (by decide +kernel) rfl
theorem tw_498 : (Jvm.Cond.instanceMethod ({ cls := "FlumeOrders", name := "fault", desc := "()I" } : Jvm.MethodName)) ∈ TW := in_t2 187 (by decide +kernel) rfl
theorem tw_499 : (Jvm.Cond.selects "FlumeOrders" ({ cls := "FlumeOrders", name := "fault", desc := "()I" } : Jvm.MethodName) ({ cls := "FlumeOrders", name := "fault", desc := "()I" } : Jvm.MethodName)) ∈ TW := in_t2 188 (by decide +kernel) rfl
theorem tw_500 : (Jvm.Cond.code ({ cls := "FlumeOrders", name := "fault", desc := "()I" } : Jvm.MethodName) prog_1_method_6_code (1 : Nat) (Option.some Jvm.ClassFile.FieldType.int)) ∈ TW := in_t2 189 (by decide +kernel) rfl
theorem tw_501 : (Jvm.Cond.methodLink "FlumeOrdersLaw" (123 : Nat) ({ cls := "FlumeOrders", name := "out", desc := "(I)I" } : Jvm.MethodName)) ∈ TW := in_t2 190 (by decide +kernel) rfl
theorem tw_502 : (Jvm.Cond.instanceMethod ({ cls := "FlumeOrders", name := "out", desc := "(I)I" } : Jvm.MethodName)) ∈ TW := in_t2 191 (by decide +kernel) rfl
theorem tw_503 : (Jvm.Cond.selects "FlumeOrders" ({ cls := "FlumeOrders", name := "out", desc := "(I)I" } : Jvm.MethodName) ({ cls := "FlumeOrders", name := "out", desc := "(I)I" } : Jvm.MethodName)) ∈ TW := in_t2 192 (by decide +kernel) rfl
theorem tw_504 : (Jvm.Cond.code ({ cls := "FlumeOrders", name := "out", desc := "(I)I" } : Jvm.MethodName) prog_1_method_13_code (2 : Nat) (Option.some Jvm.ClassFile.FieldType.int)) ∈ TW := in_t2 193 (by decide +kernel) rfl
theorem tw_505 : (Jvm.Cond.methodLink "FlumeOrdersLaw" (154 : Nat) ({ cls := "FlumeOrders", name := "test", desc := "(I)I" } : Jvm.MethodName)) ∈ TW := in_t2 194 (by decide +kernel) rfl
theorem tw_506 : (Jvm.Cond.instanceMethod ({ cls := "FlumeOrders", name := "test", desc := "(I)I" } : Jvm.MethodName)) ∈ TW := in_t2 195 (by decide +kernel) rfl
theorem tw_507 : (Jvm.Cond.selects "FlumeOrders" ({ cls := "FlumeOrders", name := "test", desc := "(I)I" } : Jvm.MethodName) ({ cls := "FlumeOrders", name := "test", desc := "(I)I" } : Jvm.MethodName)) ∈ TW := in_t2 196 (by decide +kernel) rfl
theorem tw_508 : (Jvm.Cond.code ({ cls := "FlumeOrders", name := "test", desc := "(I)I" } : Jvm.MethodName) prog_1_method_22_code (10 : Nat) (Option.some Jvm.ClassFile.FieldType.int)) ∈ TW := in_t2 197 (by decide +kernel) rfl
theorem tw_509 : (Jvm.Cond.methodLink "FlumeOrders" (277 : Nat) ({ cls := "java/lang/Integer", name := "bitCount", desc := "(I)I" } : Jvm.MethodName)) ∈ TW := in_t2 198 (by decide +kernel) rfl
theorem tw_510 : (Jvm.Cond.static ({ cls := "java/lang/Integer", name := "bitCount", desc := "(I)I" } : Jvm.MethodName)) ∈ TW := in_t2 199 (by decide +kernel) rfl
theorem tw_511 : (Jvm.Cond.code ({ cls := "java/lang/Integer", name := "bitCount", desc := "(I)I" } : Jvm.MethodName) prog_23_method_49_code (1 : Nat) (Option.some Jvm.ClassFile.FieldType.int)) ∈ TW := in_t2 200 (by decide +kernel) rfl
theorem tw_512 : (Jvm.Cond.constant "java/lang/Integer" (265 : Nat) (1431655765 : Int32)) ∈ TW := in_t2 201 (by decide +kernel) rfl
theorem tw_513 : (Jvm.Cond.constant "java/lang/Integer" (266 : Nat) (858993459 : Int32)) ∈ TW := in_t2 202 (by decide +kernel) rfl
theorem tw_514 : (Jvm.Cond.constant "java/lang/Integer" (267 : Nat) (252645135 : Int32)) ∈ TW := in_t2 203 (by decide +kernel) rfl
theorem tw_515 : (Jvm.Cond.methodLink "FlumeOrders" (224 : Nat) ({ cls := "java/lang/Math", name := "max", desc := "(II)I" } : Jvm.MethodName)) ∈ TW := in_t2 204 (by decide +kernel) rfl
theorem tw_516 : (Jvm.Cond.static ({ cls := "java/lang/Math", name := "max", desc := "(II)I" } : Jvm.MethodName)) ∈ TW := in_t2 205 (by decide +kernel) rfl
theorem tw_517 : (Jvm.Cond.code ({ cls := "java/lang/Math", name := "max", desc := "(II)I" } : Jvm.MethodName) prog_24_method_65_code (2 : Nat) (Option.some Jvm.ClassFile.FieldType.int)) ∈ TW := in_t2 206 (by decide +kernel) rfl
theorem tw_518 : (Jvm.Cond.methodLink "FlumeOrdersLaw" (161 : Nat) ({ cls := "FlumeOrders", name := "image", desc := "()V" } : Jvm.MethodName)) ∈ TW := in_t2 207 (by decide +kernel) rfl
theorem tw_519 : (Jvm.Cond.instanceMethod ({ cls := "FlumeOrders", name := "image", desc := "()V" } : Jvm.MethodName)) ∈ TW := in_t2 208 (by decide +kernel) rfl
theorem tw_520 : (Jvm.Cond.selects "FlumeOrders" ({ cls := "FlumeOrders", name := "image", desc := "()V" } : Jvm.MethodName) ({ cls := "FlumeOrders", name := "image", desc := "()V" } : Jvm.MethodName)) ∈ TW := in_t2 209 (by decide +kernel) rfl
theorem tw_521 : (Jvm.Cond.code ({ cls := "FlumeOrders", name := "image", desc := "()V" } : Jvm.MethodName) prog_1_method_24_code (1 : Nat) (Option.none : Option Jvm.ClassFile.FieldType)) ∈ TW := in_t2 210 (by decide +kernel) rfl
theorem tw_522 : (Jvm.Cond.methodLink "FlumeOrders" (70 : Nat) ({ cls := "FlumeOrders$Forest", name := "copyFrom", desc := "(LFlumeOrders$Forest;)V" } : Jvm.MethodName)) ∈ TW := in_t2 211 (by decide +kernel) rfl
theorem tw_523 : (Jvm.Cond.instanceMethod ({ cls := "FlumeOrders$Forest", name := "copyFrom", desc := "(LFlumeOrders$Forest;)V" } : Jvm.MethodName)) ∈ TW := in_t2 212 (by decide +kernel) rfl
theorem tw_524 : (Jvm.Cond.selects "FlumeOrders$Forest" ({ cls := "FlumeOrders$Forest", name := "copyFrom", desc := "(LFlumeOrders$Forest;)V" } : Jvm.MethodName) ({ cls := "FlumeOrders$Forest", name := "copyFrom", desc := "(LFlumeOrders$Forest;)V" } : Jvm.MethodName)) ∈ TW := in_t2 213 (by decide +kernel) rfl
theorem tw_525 : (Jvm.Cond.code ({ cls := "FlumeOrders$Forest", name := "copyFrom", desc := "(LFlumeOrders$Forest;)V" } : Jvm.MethodName) prog_6_method_2_code (3 : Nat) (Option.none : Option Jvm.ClassFile.FieldType)) ∈ TW := in_t2 214 (by decide +kernel) rfl
theorem tw_526 : (Jvm.Cond.methodLink "FlumeOrders$Forest" (71 : Nat) ({ cls := "FlumeOrders$Orders", name := "copyFrom", desc := "(LFlumeOrders$Orders;)V" } : Jvm.MethodName)) ∈ TW := in_t2 215 (by decide +kernel) rfl
theorem tw_527 : (Jvm.Cond.instanceMethod ({ cls := "FlumeOrders$Orders", name := "copyFrom", desc := "(LFlumeOrders$Orders;)V" } : Jvm.MethodName)) ∈ TW := in_t2 216 (by decide +kernel) rfl
theorem tw_528 : (Jvm.Cond.selects "FlumeOrders$Orders" ({ cls := "FlumeOrders$Orders", name := "copyFrom", desc := "(LFlumeOrders$Orders;)V" } : Jvm.MethodName) ({ cls := "FlumeOrders$Orders", name := "copyFrom", desc := "(LFlumeOrders$Orders;)V" } : Jvm.MethodName)) ∈ TW := in_t2 217 (by decide +kernel) rfl
theorem tw_529 : (Jvm.Cond.code ({ cls := "FlumeOrders$Orders", name := "copyFrom", desc := "(LFlumeOrders$Orders;)V" } : Jvm.MethodName) prog_8_method_6_code (4 : Nat) (Option.none : Option Jvm.ClassFile.FieldType)) ∈ TW := in_t2 218 (by decide +kernel) rfl
theorem tw_530 : (Jvm.Cond.methodLink "FlumeOrders$Forest" (75 : Nat) ({ cls := "FlumeOrders$Camp", name := "copyFrom", desc := "(LFlumeOrders$Camp;)V" } : Jvm.MethodName)) ∈ TW := in_t2 219 (by decide +kernel) rfl
theorem tw_531 : (Jvm.Cond.instanceMethod ({ cls := "FlumeOrders$Camp", name := "copyFrom", desc := "(LFlumeOrders$Camp;)V" } : Jvm.MethodName)) ∈ TW := in_t2 220 (by decide +kernel) rfl
theorem tw_532 : (Jvm.Cond.selects "FlumeOrders$Camp" ({ cls := "FlumeOrders$Camp", name := "copyFrom", desc := "(LFlumeOrders$Camp;)V" } : Jvm.MethodName) ({ cls := "FlumeOrders$Camp", name := "copyFrom", desc := "(LFlumeOrders$Camp;)V" } : Jvm.MethodName)) ∈ TW := in_t2 221 (by decide +kernel) rfl
theorem tw_533 : (Jvm.Cond.code ({ cls := "FlumeOrders$Camp", name := "copyFrom", desc := "(LFlumeOrders$Camp;)V" } : Jvm.MethodName) prog_3_method_6_code (2 : Nat) (Option.none : Option Jvm.ClassFile.FieldType)) ∈ TW := in_t2 222 (by decide +kernel) rfl
theorem tw_534 : (Jvm.Cond.methodLink "FlumeOrders$Forest" (78 : Nat) ({ cls := "FlumeOrders$Reach", name := "copyFrom", desc := "(LFlumeOrders$Reach;)V" } : Jvm.MethodName)) ∈ TW := in_t2 223 (by decide +kernel) rfl
theorem tw_535 : (Jvm.Cond.instanceMethod ({ cls := "FlumeOrders$Reach", name := "copyFrom", desc := "(LFlumeOrders$Reach;)V" } : Jvm.MethodName)) ∈ TW := in_t2 224 (by decide +kernel) rfl
theorem tw_536 : (Jvm.Cond.selects "FlumeOrders$Reach" ({ cls := "FlumeOrders$Reach", name := "copyFrom", desc := "(LFlumeOrders$Reach;)V" } : Jvm.MethodName) ({ cls := "FlumeOrders$Reach", name := "copyFrom", desc := "(LFlumeOrders$Reach;)V" } : Jvm.MethodName)) ∈ TW := in_t2 225 (by decide +kernel) rfl
theorem tw_537 : (Jvm.Cond.code ({ cls := "FlumeOrders$Reach", name := "copyFrom", desc := "(LFlumeOrders$Reach;)V" } : Jvm.MethodName) prog_9_method_3_code (2 : Nat) (Option.none : Option Jvm.ClassFile.FieldType)) ∈ TW := in_t2 226 (by decide +kernel) rfl
theorem tw_538 : (Jvm.Cond.methodLink "FlumeOrders$Forest" (81 : Nat) ({ cls := "FlumeOrders$Chip", name := "copyFrom", desc := "(LFlumeOrders$Chip;)V" } : Jvm.MethodName)) ∈ TW := in_t2 227 (by decide +kernel) rfl
theorem tw_539 : (Jvm.Cond.instanceMethod ({ cls := "FlumeOrders$Chip", name := "copyFrom", desc := "(LFlumeOrders$Chip;)V" } : Jvm.MethodName)) ∈ TW := in_t2 228 (by decide +kernel) rfl
theorem tw_540 : (Jvm.Cond.selects "FlumeOrders$Chip" ({ cls := "FlumeOrders$Chip", name := "copyFrom", desc := "(LFlumeOrders$Chip;)V" } : Jvm.MethodName) ({ cls := "FlumeOrders$Chip", name := "copyFrom", desc := "(LFlumeOrders$Chip;)V" } : Jvm.MethodName)) ∈ TW := in_t2 229 (by decide +kernel) rfl
theorem tw_541 : (Jvm.Cond.code ({ cls := "FlumeOrders$Chip", name := "copyFrom", desc := "(LFlumeOrders$Chip;)V" } : Jvm.MethodName) prog_4_method_2_code (2 : Nat) (Option.none : Option Jvm.ClassFile.FieldType)) ∈ TW := in_t2 230 (by decide +kernel) rfl
theorem tw_542 : (Jvm.Cond.methodLink "FlumeOrdersLaw" (165 : Nat) ({ cls := "FlumeOrders", name := "back", desc := "()Z" } : Jvm.MethodName)) ∈ TW := in_t2 231 (by decide +kernel) rfl
theorem tw_543 : (Jvm.Cond.instanceMethod ({ cls := "FlumeOrders", name := "back", desc := "()Z" } : Jvm.MethodName)) ∈ TW := in_t2 232 (by decide +kernel) rfl
theorem tw_544 : (Jvm.Cond.selects "FlumeOrders" ({ cls := "FlumeOrders", name := "back", desc := "()Z" } : Jvm.MethodName) ({ cls := "FlumeOrders", name := "back", desc := "()Z" } : Jvm.MethodName)) ∈ TW := in_t2 233 (by decide +kernel) rfl
theorem tw_545 : (Jvm.Cond.code ({ cls := "FlumeOrders", name := "back", desc := "()Z" } : Jvm.MethodName) prog_1_method_25_code (1 : Nat) (Option.some Jvm.ClassFile.FieldType.boolean)) ∈ TW := in_t2 234 (by decide +kernel) rfl
theorem tw_546 : (Jvm.Cond.methodLink "FlumeOrdersLaw" (170 : Nat) ({ cls := "FlumeOrders", name := "count", desc := "(I)I" } : Jvm.MethodName)) ∈ TW := in_t2 235 (by decide +kernel) rfl
theorem tw_547 : (Jvm.Cond.instanceMethod ({ cls := "FlumeOrders", name := "count", desc := "(I)I" } : Jvm.MethodName)) ∈ TW := in_t2 236 (by decide +kernel) rfl
theorem tw_548 : (Jvm.Cond.selects "FlumeOrders" ({ cls := "FlumeOrders", name := "count", desc := "(I)I" } : Jvm.MethodName) ({ cls := "FlumeOrders", name := "count", desc := "(I)I" } : Jvm.MethodName)) ∈ TW := in_t2 237 (by decide +kernel) rfl
theorem tw_549 : (Jvm.Cond.code ({ cls := "FlumeOrders", name := "count", desc := "(I)I" } : Jvm.MethodName) prog_1_method_26_code (2 : Nat) (Option.some Jvm.ClassFile.FieldType.int)) ∈ TW := in_t2 238 (by decide +kernel) rfl
theorem tw_550 : (Jvm.Cond.methodLink "FlumeOrders" (295 : Nat) ({ cls := "FlumeOrders$Forest", name := "allLate", desc := "()I" } : Jvm.MethodName)) ∈ TW := in_t2 239 (by decide +kernel) rfl
theorem tw_551 : (Jvm.Cond.instanceMethod ({ cls := "FlumeOrders$Forest", name := "allLate", desc := "()I" } : Jvm.MethodName)) ∈ TW := in_t3 0 (by decide +kernel) rfl
theorem tw_552 : (Jvm.Cond.selects "FlumeOrders$Forest" ({ cls := "FlumeOrders$Forest", name := "allLate", desc := "()I" } : Jvm.MethodName) ({ cls := "FlumeOrders$Forest", name := "allLate", desc := "()I" } : Jvm.MethodName)) ∈ TW := in_t3 1 (by decide +kernel) rfl
theorem tw_553 : (Jvm.Cond.code ({ cls := "FlumeOrders$Forest", name := "allLate", desc := "()I" } : Jvm.MethodName) prog_6_method_19_code (3 : Nat) (Option.some Jvm.ClassFile.FieldType.int)) ∈ TW := in_t3 2 (by decide +kernel) rfl
theorem tw_554 : (Jvm.Cond.methodLink "FlumeOrders" (285 : Nat) ({ cls := "FlumeOrders$Forest", name := "allSent", desc := "()I" } : Jvm.MethodName)) ∈ TW := in_t3 3 (by decide +kernel) rfl
theorem tw_555 : (Jvm.Cond.instanceMethod ({ cls := "FlumeOrders$Forest", name := "allSent", desc := "()I" } : Jvm.MethodName)) ∈ TW := in_t3 4 (by decide +kernel) rfl
theorem tw_556 : (Jvm.Cond.selects "FlumeOrders$Forest" ({ cls := "FlumeOrders$Forest", name := "allSent", desc := "()I" } : Jvm.MethodName) ({ cls := "FlumeOrders$Forest", name := "allSent", desc := "()I" } : Jvm.MethodName)) ∈ TW := in_t3 5 (by decide +kernel) rfl
theorem tw_557 : (Jvm.Cond.code ({ cls := "FlumeOrders$Forest", name := "allSent", desc := "()I" } : Jvm.MethodName) prog_6_method_18_code (3 : Nat) (Option.some Jvm.ClassFile.FieldType.int)) ∈ TW := in_t3 6 (by decide +kernel) rfl
theorem tw_558 : (Jvm.Cond.methodLink "FlumeOrders" (298 : Nat) ({ cls := "FlumeOrders$Forest", name := "hasFrost", desc := "()Z" } : Jvm.MethodName)) ∈ TW := in_t3 7 (by decide +kernel) rfl
theorem tw_559 : (Jvm.Cond.instanceMethod ({ cls := "FlumeOrders$Forest", name := "hasFrost", desc := "()Z" } : Jvm.MethodName)) ∈ TW := in_t3 8 (by decide +kernel) rfl
theorem tw_560 : (Jvm.Cond.selects "FlumeOrders$Forest" ({ cls := "FlumeOrders$Forest", name := "hasFrost", desc := "()Z" } : Jvm.MethodName) ({ cls := "FlumeOrders$Forest", name := "hasFrost", desc := "()Z" } : Jvm.MethodName)) ∈ TW := in_t3 9 (by decide +kernel) rfl
theorem tw_561 : (Jvm.Cond.code ({ cls := "FlumeOrders$Forest", name := "hasFrost", desc := "()Z" } : Jvm.MethodName) prog_6_method_13_code (1 : Nat) (Option.some Jvm.ClassFile.FieldType.boolean)) ∈ TW := in_t3 10 (by decide +kernel) rfl
theorem tw_562 : (Jvm.Cond.methodLink "FlumeOrders$Forest" (189 : Nat) ({ cls := "FlumeOrders$Forest", name := "hour", desc := "()I" } : Jvm.MethodName)) ∈ TW := in_t3 11 (by decide +kernel) rfl
theorem tw_563 : (Jvm.Cond.instanceMethod ({ cls := "FlumeOrders$Forest", name := "hour", desc := "()I" } : Jvm.MethodName)) ∈ TW := in_t3 12 (by decide +kernel) rfl
theorem tw_564 : (Jvm.Cond.selects "FlumeOrders$Forest" ({ cls := "FlumeOrders$Forest", name := "hour", desc := "()I" } : Jvm.MethodName) ({ cls := "FlumeOrders$Forest", name := "hour", desc := "()I" } : Jvm.MethodName)) ∈ TW := in_t3 13 (by decide +kernel) rfl
theorem tw_565 : (Jvm.Cond.code ({ cls := "FlumeOrders$Forest", name := "hour", desc := "()I" } : Jvm.MethodName) prog_6_method_12_code (1 : Nat) (Option.some Jvm.ClassFile.FieldType.int)) ∈ TW := in_t3 14 (by decide +kernel) rfl
theorem tw_566 : (Jvm.Cond.methodLink "FlumeOrders$Forest" (193 : Nat) ({ cls := "FlumeOrders$Forest", name := "isFrostyAt", desc := "(I)Z" } : Jvm.MethodName)) ∈ TW := in_t3 15 (by decide +kernel) rfl
theorem tw_567 : (Jvm.Cond.instanceMethod ({ cls := "FlumeOrders$Forest", name := "isFrostyAt", desc := "(I)Z" } : Jvm.MethodName)) ∈ TW := in_t3 16 (by decide +kernel) rfl
theorem tw_568 : (Jvm.Cond.selects "FlumeOrders$Forest" ({ cls := "FlumeOrders$Forest", name := "isFrostyAt", desc := "(I)Z" } : Jvm.MethodName) ({ cls := "FlumeOrders$Forest", name := "isFrostyAt", desc := "(I)Z" } : Jvm.MethodName)) ∈ TW := in_t3 17 (by decide +kernel) rfl
theorem tw_569 : (Jvm.Cond.code ({ cls := "FlumeOrders$Forest", name := "isFrostyAt", desc := "(I)Z" } : Jvm.MethodName) prog_6_method_14_code (2 : Nat) (Option.some Jvm.ClassFile.FieldType.boolean)) ∈ TW := in_t3 18 (by decide +kernel) rfl
theorem tw_570 : (Jvm.Cond.methodLink "FlumeOrdersLaw" (87 : Nat) ({ cls := "FlumeOrdersLaw", name := "forest", desc := "(LFlumeOrders;[J)I" } : Jvm.MethodName)) ∈ TW := in_t3 19 (by decide +kernel) rfl
theorem tw_571 : (Jvm.Cond.static ({ cls := "FlumeOrdersLaw", name := "forest", desc := "(LFlumeOrders;[J)I" } : Jvm.MethodName)) ∈ TW := in_t3 20 (by decide +kernel) rfl
theorem tw_572 : (Jvm.Cond.codeWith ({ cls := "FlumeOrdersLaw", name := "forest", desc := "(LFlumeOrders;[J)I" } : Jvm.MethodName) method_3_code (3 : Nat) (Option.some Jvm.ClassFile.FieldType.int) [((0 : Nat), (8 : Nat), (11 : Nat), (13 : Nat)), ((0 : Nat), (8 : Nat), (14 : Nat), (15 : Nat))]) ∈ TW := in_t3 21 (by decide +kernel) rfl
theorem tw_573 : (Jvm.Cond.classLink "FlumeOrdersLaw" (13 : Nat) "java/lang/IllegalArgumentException") ∈ TW := in_t3 22 (by decide +kernel) rfl
theorem tw_574 : (Jvm.Cond.classLink "FlumeOrdersLaw" (15 : Nat) "java/lang/UnsupportedOperationException") ∈ TW := in_t3 23 (by decide +kernel) rfl
theorem tw_575 : (Jvm.Cond.methodLink "FlumeOrdersLaw" (7 : Nat) ({ cls := "FlumeOrders", name := "forest", desc := "()I" } : Jvm.MethodName)) ∈ TW := in_t3 24 (by decide +kernel) rfl
theorem tw_576 : (Jvm.Cond.instanceMethod ({ cls := "FlumeOrders", name := "forest", desc := "()I" } : Jvm.MethodName)) ∈ TW := in_t3 25 (by decide +kernel) rfl
theorem tw_577 : (Jvm.Cond.selects "FlumeOrders" ({ cls := "FlumeOrders", name := "forest", desc := "()I" } : Jvm.MethodName) ({ cls := "FlumeOrders", name := "forest", desc := "()I" } : Jvm.MethodName)) ∈ TW := in_t3 26 (by decide +kernel) rfl
theorem tw_578 : (Jvm.Cond.code ({ cls := "FlumeOrders", name := "forest", desc := "()I" } : Jvm.MethodName) prog_1_method_4_code (1 : Nat) (Option.some Jvm.ClassFile.FieldType.int)) ∈ TW := in_t3 27 (by decide +kernel) rfl
theorem tw_579 : (Jvm.Cond.methodLink "FlumeOrders" (62 : Nat) ({ cls := "FlumeOrders$Tape", name := "useUp", desc := "()I" } : Jvm.MethodName)) ∈ TW := in_t3 28 (by decide +kernel) rfl
theorem tw_580 : (Jvm.Cond.instanceMethod ({ cls := "FlumeOrders$Tape", name := "useUp", desc := "()I" } : Jvm.MethodName)) ∈ TW := in_t3 29 (by decide +kernel) rfl
theorem tw_581 : (Jvm.Cond.selects "FlumeOrders$Tape" ({ cls := "FlumeOrders$Tape", name := "useUp", desc := "()I" } : Jvm.MethodName) ({ cls := "FlumeOrders$Tape", name := "useUp", desc := "()I" } : Jvm.MethodName)) ∈ TW := in_t3 30 (by decide +kernel) rfl
theorem tw_582 : (Jvm.Cond.code ({ cls := "FlumeOrders$Tape", name := "useUp", desc := "()I" } : Jvm.MethodName) prog_11_method_3_code (2 : Nat) (Option.some Jvm.ClassFile.FieldType.int)) ∈ TW := in_t3 31 (by decide +kernel) rfl
theorem tw_583 : (Jvm.Cond.methodLink "FlumeOrders" (66 : Nat) ({ cls := "FlumeOrders$Things", name := "open", desc := "([II)V" } : Jvm.MethodName)) ∈ TW := in_t3 32 (by decide +kernel) rfl
theorem tw_584 : (Jvm.Cond.instanceMethod ({ cls := "FlumeOrders$Things", name := "open", desc := "([II)V" } : Jvm.MethodName)) ∈ TW := in_t3 33 (by decide +kernel) rfl
theorem tw_585 : (Jvm.Cond.selects "FlumeOrders$Things" ({ cls := "FlumeOrders$Things", name := "open", desc := "([II)V" } : Jvm.MethodName) ({ cls := "FlumeOrders$Things", name := "open", desc := "([II)V" } : Jvm.MethodName)) ∈ TW := in_t3 34 (by decide +kernel) rfl
theorem tw_586 : (Jvm.Cond.code ({ cls := "FlumeOrders$Things", name := "open", desc := "([II)V" } : Jvm.MethodName) prog_12_method_2_code (6 : Nat) (Option.none : Option Jvm.ClassFile.FieldType)) ∈ TW := in_t3 35 (by decide +kernel) rfl
theorem tw_587 : (Jvm.Cond.methodLink "FlumeOrders$Things" (28 : Nat) ({ cls := "java/lang/Math", name := "min", desc := "(II)I" } : Jvm.MethodName)) ∈ TW := in_t3 36 (by decide +kernel) rfl
theorem tw_588 : (Jvm.Cond.static ({ cls := "java/lang/Math", name := "min", desc := "(II)I" } : Jvm.MethodName)) ∈ TW := in_t3 37 (by decide +kernel) rfl
theorem tw_589 : (Jvm.Cond.code ({ cls := "java/lang/Math", name := "min", desc := "(II)I" } : Jvm.MethodName) prog_24_method_69_code (2 : Nat) (Option.some Jvm.ClassFile.FieldType.int)) ∈ TW := in_t3 38 (by decide +kernel) rfl
theorem tw_590 : (Jvm.Cond.methodLink "FlumeOrders$Things" (43 : Nat) ({ cls := "FlumeOrders$Things", name := "behindRun", desc := "([II)I" } : Jvm.MethodName)) ∈ TW := in_t3 39 (by decide +kernel) rfl
theorem tw_592 : (Jvm.Cond.instanceMethod ({ cls := "FlumeOrders$Things", name := "behindRun", desc := "([II)I" } : Jvm.MethodName)) ∈ TW := in_t3 41 (by decide +kernel) rfl
theorem tw_593 : (Jvm.Cond.code ({ cls := "FlumeOrders$Things", name := "behindRun", desc := "([II)I" } : Jvm.MethodName) prog_12_method_4_code (4 : Nat) (Option.some Jvm.ClassFile.FieldType.int)) ∈ TW := in_t3 42 (by decide +kernel) rfl
theorem tw_594 : (Jvm.Cond.methodLink "FlumeOrders$Things" (70 : Nat) ({ cls := "FlumeOrders$Things", name := "isLetter", desc := "(I)Z" } : Jvm.MethodName)) ∈ TW := in_t3 43 (by decide +kernel) rfl
theorem tw_595 : (Jvm.Cond.static ({ cls := "FlumeOrders$Things", name := "isLetter", desc := "(I)Z" } : Jvm.MethodName)) ∈ TW := in_t3 44 (by decide +kernel) rfl
theorem tw_596 : (Jvm.Cond.code ({ cls := "FlumeOrders$Things", name := "isLetter", desc := "(I)Z" } : Jvm.MethodName) prog_12_method_6_code (1 : Nat) (Option.some Jvm.ClassFile.FieldType.boolean)) ∈ TW := in_t3 45 (by decide +kernel) rfl
theorem tw_597 : (Jvm.Cond.methodLink "FlumeOrders$Things" (51 : Nat) ({ cls := "FlumeOrders$Things", name := "isDigit", desc := "(I)Z" } : Jvm.MethodName)) ∈ TW := in_t3 46 (by decide +kernel) rfl
theorem tw_598 : (Jvm.Cond.static ({ cls := "FlumeOrders$Things", name := "isDigit", desc := "(I)Z" } : Jvm.MethodName)) ∈ TW := in_t3 47 (by decide +kernel) rfl
theorem tw_599 : (Jvm.Cond.code ({ cls := "FlumeOrders$Things", name := "isDigit", desc := "(I)Z" } : Jvm.MethodName) prog_12_method_7_code (1 : Nat) (Option.some Jvm.ClassFile.FieldType.boolean)) ∈ TW := in_t3 48 (by decide +kernel) rfl
theorem tw_600 : (Jvm.Cond.methodLink "FlumeOrders$Things" (47 : Nat) ({ cls := "FlumeOrders$Things", name := "add", desc := "([III)V" } : Jvm.MethodName)) ∈ TW := in_t3 49 (by decide +kernel) rfl
theorem tw_602 : (Jvm.Cond.instanceMethod ({ cls := "FlumeOrders$Things", name := "add", desc := "([III)V" } : Jvm.MethodName)) ∈ TW := in_t3 51 (by decide +kernel) rfl
theorem tw_603 : (Jvm.Cond.code ({ cls := "FlumeOrders$Things", name := "add", desc := "([III)V" } : Jvm.MethodName) prog_12_method_3_code (5 : Nat) (Option.none : Option Jvm.ClassFile.FieldType)) ∈ TW := in_t3 52 (by decide +kernel) rfl
theorem tw_604 : (Jvm.Cond.fieldLink "FlumeOrders$Things" (55 : Nat) "FlumeOrders$Word" "NUMBER" "LFlumeOrders$Word;") ∈ TW := in_t3 53 (by decide +kernel) rfl
theorem tw_606 : (Jvm.Cond.fieldLink "FlumeOrders$Things" (59 : Nat) "FlumeOrders$Word" "UNKNOWN" "LFlumeOrders$Word;") ∈ TW := in_t3 55 (by decide +kernel) rfl
theorem tw_608 : (Jvm.Cond.methodLink "FlumeOrders$Things" (62 : Nat) ({ cls := "FlumeOrders$Things", name := "valueOf", desc := "([III)I" } : Jvm.MethodName)) ∈ TW := in_t3 57 (by decide +kernel) rfl
theorem tw_609 : (Jvm.Cond.static ({ cls := "FlumeOrders$Things", name := "valueOf", desc := "([III)I" } : Jvm.MethodName)) ∈ TW := in_t3 58 (by decide +kernel) rfl
theorem tw_610 : (Jvm.Cond.code ({ cls := "FlumeOrders$Things", name := "valueOf", desc := "([III)I" } : Jvm.MethodName) prog_12_method_5_code (5 : Nat) (Option.some Jvm.ClassFile.FieldType.int)) ∈ TW := in_t3 59 (by decide +kernel) rfl
theorem tw_611 : (Jvm.Cond.methodLink "FlumeOrders$Things" (66 : Nat) ({ cls := "FlumeOrders$Word", name := "of", desc := "([III)LFlumeOrders$Word;" } : Jvm.MethodName)) ∈ TW := in_t3 60 (by decide +kernel) rfl
theorem tw_612 : (Jvm.Cond.static ({ cls := "FlumeOrders$Word", name := "of", desc := "([III)LFlumeOrders$Word;" } : Jvm.MethodName)) ∈ TW := in_t3 61 (by decide +kernel) rfl
theorem tw_613 : (Jvm.Cond.code ({ cls := "FlumeOrders$Word", name := "of", desc := "([III)LFlumeOrders$Word;" } : Jvm.MethodName) prog_13_method_5_code (4 : Nat) (Option.some (Jvm.ClassFile.FieldType.object "FlumeOrders$Word"))) ∈ TW := in_t3 62 (by decide +kernel) rfl
theorem tw_614 : (Jvm.Cond.fieldLink "FlumeOrders$Word" (130 : Nat) "FlumeOrders$Word" "LIST" "[LFlumeOrders$Word;") ∈ TW := in_t3 63 (by decide +kernel) rfl
theorem tw_616 : (Jvm.Cond.methodLink "FlumeOrders$Word" (133 : Nat) ({ cls := "FlumeOrders$Word", name := "isSpelled", desc := "([III)Z" } : Jvm.MethodName)) ∈ TW := in_t3 65 (by decide +kernel) rfl
theorem tw_618 : (Jvm.Cond.instanceMethod ({ cls := "FlumeOrders$Word", name := "isSpelled", desc := "([III)Z" } : Jvm.MethodName)) ∈ TW := in_t3 67 (by decide +kernel) rfl
theorem tw_619 : (Jvm.Cond.instantiable "FlumeOrders$Word" (6 : Nat)) ∈ TW := in_t3 68 (by decide +kernel) rfl
theorem tw_620 : (Jvm.Cond.code ({ cls := "FlumeOrders$Word", name := "isSpelled", desc := "([III)Z" } : Jvm.MethodName) prog_13_method_6_code (5 : Nat) (Option.some Jvm.ClassFile.FieldType.boolean)) ∈ TW := in_t3 69 (by decide +kernel) rfl
theorem tw_621 : (Jvm.Cond.methodLink "FlumeOrders$Word" (137 : Nat) ({ cls := "java/lang/String", name := "length", desc := "()I" } : Jvm.MethodName)) ∈ TW := in_t3 70 (by decide +kernel) rfl
theorem tw_622 : (Jvm.Cond.instanceMethod ({ cls := "java/lang/String", name := "length", desc := "()I" } : Jvm.MethodName)) ∈ TW := in_t3 71 (by decide +kernel) rfl
theorem tw_623 : (Jvm.Cond.selects "java/lang/String" ({ cls := "java/lang/String", name := "length", desc := "()I" } : Jvm.MethodName) ({ cls := "java/lang/String", name := "length", desc := "()I" } : Jvm.MethodName)) ∈ TW := in_t3 72 (by decide +kernel) rfl
theorem tw_624 : (Jvm.Cond.code ({ cls := "java/lang/String", name := "length", desc := "()I" } : Jvm.MethodName) prog_26_method_54_code (1 : Nat) (Option.some Jvm.ClassFile.FieldType.int)) ∈ TW := in_t3 73 (by decide +kernel) rfl
theorem tw_625 : (Jvm.Cond.methodLink "java/lang/String" (335 : Nat) ({ cls := "java/lang/String", name := "coder", desc := "()B" } : Jvm.MethodName)) ∈ TW := in_t3 74 (by decide +kernel) rfl
theorem tw_626 : (Jvm.Cond.instanceMethod ({ cls := "java/lang/String", name := "coder", desc := "()B" } : Jvm.MethodName)) ∈ TW := in_t3 75 (by decide +kernel) rfl
theorem tw_627 : (Jvm.Cond.selects "java/lang/String" ({ cls := "java/lang/String", name := "coder", desc := "()B" } : Jvm.MethodName) ({ cls := "java/lang/String", name := "coder", desc := "()B" } : Jvm.MethodName)) ∈ TW := in_t3 76 (by decide +kernel) rfl
theorem tw_628 : (Jvm.Cond.code ({ cls := "java/lang/String", name := "coder", desc := "()B" } : Jvm.MethodName) prog_26_method_152_code (1 : Nat) (Option.some Jvm.ClassFile.FieldType.byte)) ∈ TW := in_t3 77 (by decide +kernel) rfl
theorem tw_629 : (Jvm.Cond.fieldLink "java/lang/String" (38 : Nat) "java/lang/String" "COMPACT_STRINGS" "Z") ∈ TW := in_t3 78 (by decide +kernel) rfl
theorem tw_631 : (Jvm.Cond.methodLink "FlumeOrders$Word" (143 : Nat) ({ cls := "java/lang/String", name := "charAt", desc := "(I)C" } : Jvm.MethodName)) ∈ TW := in_t3 80 (by decide +kernel) rfl
theorem tw_632 : (Jvm.Cond.instanceMethod ({ cls := "java/lang/String", name := "charAt", desc := "(I)C" } : Jvm.MethodName)) ∈ TW := in_t3 81 (by decide +kernel) rfl
theorem tw_633 : (Jvm.Cond.selects "java/lang/String" ({ cls := "java/lang/String", name := "charAt", desc := "(I)C" } : Jvm.MethodName) ({ cls := "java/lang/String", name := "charAt", desc := "(I)C" } : Jvm.MethodName)) ∈ TW := in_t3 82 (by decide +kernel) rfl
theorem tw_634 : (Jvm.Cond.code ({ cls := "java/lang/String", name := "charAt", desc := "(I)C" } : Jvm.MethodName) prog_26_method_56_code (2 : Nat) (Option.some Jvm.ClassFile.FieldType.char)) ∈ TW := in_t3 83 (by decide +kernel) rfl
theorem tw_635 : (Jvm.Cond.methodLink "java/lang/String" (492 : Nat) ({ cls := "java/lang/String", name := "isLatin1", desc := "()Z" } : Jvm.MethodName)) ∈ TW := in_t3 84 (by decide +kernel) rfl
theorem tw_636 : (Jvm.Cond.instanceMethod ({ cls := "java/lang/String", name := "isLatin1", desc := "()Z" } : Jvm.MethodName)) ∈ TW := in_t3 85 (by decide +kernel) rfl
theorem tw_637 : (Jvm.Cond.selects "java/lang/String" ({ cls := "java/lang/String", name := "isLatin1", desc := "()Z" } : Jvm.MethodName) ({ cls := "java/lang/String", name := "isLatin1", desc := "()Z" } : Jvm.MethodName)) ∈ TW := in_t3 86 (by decide +kernel) rfl
theorem tw_638 : (Jvm.Cond.code ({ cls := "java/lang/String", name := "isLatin1", desc := "()Z" } : Jvm.MethodName) prog_26_method_154_code (1 : Nat) (Option.some Jvm.ClassFile.FieldType.boolean)) ∈ TW := in_t3 87 (by decide +kernel) rfl
theorem tw_639 : (Jvm.Cond.methodLink "java/lang/String" (495 : Nat) ({ cls := "java/lang/StringLatin1", name := "charAt", desc := "([BI)C" } : Jvm.MethodName)) ∈ TW := in_t3 88 (by decide +kernel) rfl
theorem tw_640 : (Jvm.Cond.static ({ cls := "java/lang/StringLatin1", name := "charAt", desc := "([BI)C" } : Jvm.MethodName)) ∈ TW := in_t3 89 (by decide +kernel) rfl
theorem tw_641 : (Jvm.Cond.code ({ cls := "java/lang/StringLatin1", name := "charAt", desc := "([BI)C" } : Jvm.MethodName) prog_27_method_2_code (2 : Nat) (Option.some Jvm.ClassFile.FieldType.char)) ∈ TW := in_t3 90 (by decide +kernel) rfl
theorem tw_642 : (Jvm.Cond.methodLink "java/lang/StringLatin1" (9 : Nat) ({ cls := "java/lang/String", name := "checkIndex", desc := "(II)V" } : Jvm.MethodName)) ∈ TW := in_t3 91 (by decide +kernel) rfl
theorem tw_643 : (Jvm.Cond.static ({ cls := "java/lang/String", name := "checkIndex", desc := "(II)V" } : Jvm.MethodName)) ∈ TW := in_t3 92 (by decide +kernel) rfl
theorem tw_644 : (Jvm.Cond.code ({ cls := "java/lang/String", name := "checkIndex", desc := "(II)V" } : Jvm.MethodName) prog_26_method_155_code (2 : Nat) (Option.none : Option Jvm.ClassFile.FieldType)) ∈ TW := in_t3 93 (by decide +kernel) rfl
theorem tw_645 : (Jvm.Cond.fieldLink "java/lang/String" (1053 : Nat) "jdk/internal/util/Preconditions" "SIOOBE_FORMATTER" "Ljava/util/function/BiFunction;") ∈ TW := in_t3 94 (by decide +kernel) rfl
theorem tw_647 : (Jvm.Cond.methodLink "java/lang/String" (1059 : Nat) ({ cls := "jdk/internal/util/Preconditions", name := "checkIndex", desc := "(IILjava/util/function/BiFunction;)I" } : Jvm.MethodName)) ∈ TW := in_t3 96 (by decide +kernel) rfl
theorem tw_648 : (Jvm.Cond.static ({ cls := "jdk/internal/util/Preconditions", name := "checkIndex", desc := "(IILjava/util/function/BiFunction;)I" } : Jvm.MethodName)) ∈ TW := in_t3 97 (by decide +kernel) rfl
theorem tw_649 : (Jvm.Cond.code ({ cls := "jdk/internal/util/Preconditions", name := "checkIndex", desc := "(IILjava/util/function/BiFunction;)I" } : Jvm.MethodName) prog_35_method_11_code (3 : Nat) (Option.some Jvm.ClassFile.FieldType.int)) ∈ TW := in_t3 98 (by decide +kernel) rfl
theorem tw_650 : (Jvm.Cond.methodLink "java/lang/String" (498 : Nat) ({ cls := "java/lang/StringUTF16", name := "charAt", desc := "([BI)C" } : Jvm.MethodName)) ∈ TW := in_t3 99 (by decide +kernel) rfl
theorem tw_651 : (Jvm.Cond.static ({ cls := "java/lang/StringUTF16", name := "charAt", desc := "([BI)C" } : Jvm.MethodName)) ∈ TW := in_t3 100 (by decide +kernel) rfl
theorem tw_652 : (Jvm.Cond.code ({ cls := "java/lang/StringUTF16", name := "charAt", desc := "([BI)C" } : Jvm.MethodName) prog_28_method_83_code (2 : Nat) (Option.some Jvm.ClassFile.FieldType.char)) ∈ TW := in_t3 101 (by decide +kernel) rfl
theorem tw_653 : (Jvm.Cond.methodLink "java/lang/StringUTF16" (67 : Nat) ({ cls := "java/lang/StringUTF16", name := "checkIndex", desc := "(I[B)V" } : Jvm.MethodName)) ∈ TW := in_t3 102 (by decide +kernel) rfl
theorem tw_654 : (Jvm.Cond.static ({ cls := "java/lang/StringUTF16", name := "checkIndex", desc := "(I[B)V" } : Jvm.MethodName)) ∈ TW := in_t3 103 (by decide +kernel) rfl
theorem tw_655 : (Jvm.Cond.code ({ cls := "java/lang/StringUTF16", name := "checkIndex", desc := "(I[B)V" } : Jvm.MethodName) prog_28_method_91_code (2 : Nat) (Option.none : Option Jvm.ClassFile.FieldType)) ∈ TW := in_t3 104 (by decide +kernel) rfl
theorem tw_656 : (Jvm.Cond.methodLink "java/lang/StringUTF16" (48 : Nat) ({ cls := "java/lang/StringUTF16", name := "length", desc := "([B)I" } : Jvm.MethodName)) ∈ TW := in_t3 105 (by decide +kernel) rfl
theorem tw_657 : (Jvm.Cond.static ({ cls := "java/lang/StringUTF16", name := "length", desc := "([B)I" } : Jvm.MethodName)) ∈ TW := in_t3 106 (by decide +kernel) rfl
theorem tw_658 : (Jvm.Cond.code ({ cls := "java/lang/StringUTF16", name := "length", desc := "([B)I" } : Jvm.MethodName) prog_28_method_6_code (1 : Nat) (Option.some Jvm.ClassFile.FieldType.int)) ∈ TW := in_t3 107 (by decide +kernel) rfl
theorem tw_659 : (Jvm.Cond.methodLink "java/lang/StringUTF16" (414 : Nat) ({ cls := "java/lang/String", name := "checkIndex", desc := "(II)V" } : Jvm.MethodName)) ∈ TW := in_t3 108 (by decide +kernel) rfl
theorem tw_660 : (Jvm.Cond.methodLink "java/lang/StringUTF16" (71 : Nat) ({ cls := "java/lang/StringUTF16", name := "getChar", desc := "([BI)C" } : Jvm.MethodName)) ∈ TW := in_t3 109 (by decide +kernel) rfl
theorem tw_661 : (Jvm.Cond.static ({ cls := "java/lang/StringUTF16", name := "getChar", desc := "([BI)C" } : Jvm.MethodName)) ∈ TW := in_t3 110 (by decide +kernel) rfl
theorem tw_662 : (Jvm.Cond.code ({ cls := "java/lang/StringUTF16", name := "getChar", desc := "([BI)C" } : Jvm.MethodName) prog_28_method_5_code (2 : Nat) (Option.some Jvm.ClassFile.FieldType.char)) ∈ TW := in_t3 111 (by decide +kernel) rfl
theorem tw_663 : (Jvm.Cond.fieldLink "java/lang/StringUTF16" (44 : Nat) "java/lang/StringUTF16" "$assertionsDisabled" "Z") ∈ TW := in_t3 112 (by decide +kernel) rfl
theorem tw_665 : (Jvm.Cond.fieldLink "java/lang/StringUTF16" (59 : Nat) "java/lang/StringUTF16" "HI_BYTE_SHIFT" "I") ∈ TW := in_t3 114 (by decide +kernel) rfl
theorem tw_667 : (Jvm.Cond.fieldLink "java/lang/StringUTF16" (63 : Nat) "java/lang/StringUTF16" "LO_BYTE_SHIFT" "I") ∈ TW := in_t3 116 (by decide +kernel) rfl
theorem tw_669 : (Jvm.Cond.fieldLink "FlumeOrders$Word" (94 : Nat) "FlumeOrders$Word" "UNKNOWN" "LFlumeOrders$Word;") ∈ TW := in_t3 118 (by decide +kernel) rfl
theorem tw_670 : (Jvm.Cond.methodLink "FlumeOrders" (74 : Nat) ({ cls := "FlumeOrders$Forest", name := "read", desc := "(LFlumeOrders$Things;)V" } : Jvm.MethodName)) ∈ TW := in_t3 119 (by decide +kernel) rfl
theorem tw_671 : (Jvm.Cond.instanceMethod ({ cls := "FlumeOrders$Forest", name := "read", desc := "(LFlumeOrders$Things;)V" } : Jvm.MethodName)) ∈ TW := in_t3 120 (by decide +kernel) rfl
theorem tw_672 : (Jvm.Cond.selects "FlumeOrders$Forest" ({ cls := "FlumeOrders$Forest", name := "read", desc := "(LFlumeOrders$Things;)V" } : Jvm.MethodName) ({ cls := "FlumeOrders$Forest", name := "read", desc := "(LFlumeOrders$Things;)V" } : Jvm.MethodName)) ∈ TW := in_t3 121 (by decide +kernel) rfl
theorem tw_673 : (Jvm.Cond.code ({ cls := "FlumeOrders$Forest", name := "read", desc := "(LFlumeOrders$Things;)V" } : Jvm.MethodName) prog_6_method_3_code (3 : Nat) (Option.none : Option Jvm.ClassFile.FieldType)) ∈ TW := in_t3 122 (by decide +kernel) rfl
theorem tw_674 : (Jvm.Cond.methodLink "FlumeOrders$Forest" (84 : Nat) ({ cls := "FlumeOrders$Things", name := "isAtEnd", desc := "()Z" } : Jvm.MethodName)) ∈ TW := in_t3 123 (by decide +kernel) rfl
theorem tw_675 : (Jvm.Cond.instanceMethod ({ cls := "FlumeOrders$Things", name := "isAtEnd", desc := "()Z" } : Jvm.MethodName)) ∈ TW := in_t3 124 (by decide +kernel) rfl
theorem tw_676 : (Jvm.Cond.selects "FlumeOrders$Things" ({ cls := "FlumeOrders$Things", name := "isAtEnd", desc := "()Z" } : Jvm.MethodName) ({ cls := "FlumeOrders$Things", name := "isAtEnd", desc := "()Z" } : Jvm.MethodName)) ∈ TW := in_t3 125 (by decide +kernel) rfl
theorem tw_677 : (Jvm.Cond.code ({ cls := "FlumeOrders$Things", name := "isAtEnd", desc := "()Z" } : Jvm.MethodName) prog_12_method_9_code (1 : Nat) (Option.some Jvm.ClassFile.FieldType.boolean)) ∈ TW := in_t3 126 (by decide +kernel) rfl
theorem tw_678 : (Jvm.Cond.methodLink "FlumeOrders$Forest" (90 : Nat) ({ cls := "FlumeOrders$Forest", name := "readLine", desc := "(LFlumeOrders$Things;)V" } : Jvm.MethodName)) ∈ TW := in_t3 127 (by decide +kernel) rfl
theorem tw_680 : (Jvm.Cond.instanceMethod ({ cls := "FlumeOrders$Forest", name := "readLine", desc := "(LFlumeOrders$Things;)V" } : Jvm.MethodName)) ∈ TW := in_t3 129 (by decide +kernel) rfl
theorem tw_681 : (Jvm.Cond.code ({ cls := "FlumeOrders$Forest", name := "readLine", desc := "(LFlumeOrders$Things;)V" } : Jvm.MethodName) prog_6_method_4_code (2 : Nat) (Option.none : Option Jvm.ClassFile.FieldType)) ∈ TW := in_t3 130 (by decide +kernel) rfl
theorem tw_682 : (Jvm.Cond.methodLink "FlumeOrders$Forest" (107 : Nat) ({ cls := "FlumeOrders$Forest", name := "mayGrow", desc := "()Z" } : Jvm.MethodName)) ∈ TW := in_t3 131 (by decide +kernel) rfl
theorem tw_684 : (Jvm.Cond.instanceMethod ({ cls := "FlumeOrders$Forest", name := "mayGrow", desc := "()Z" } : Jvm.MethodName)) ∈ TW := in_t3 133 (by decide +kernel) rfl
theorem tw_685 : (Jvm.Cond.code ({ cls := "FlumeOrders$Forest", name := "mayGrow", desc := "()Z" } : Jvm.MethodName) prog_6_method_7_code (1 : Nat) (Option.some Jvm.ClassFile.FieldType.boolean)) ∈ TW := in_t3 134 (by decide +kernel) rfl
theorem tw_686 : (Jvm.Cond.fieldLink "FlumeOrders$Forest" (110 : Nat) "FlumeOrders$Word" "CAMP" "LFlumeOrders$Word;") ∈ TW := in_t3 135 (by decide +kernel) rfl
theorem tw_688 : (Jvm.Cond.methodLink "FlumeOrders$Forest" (100 : Nat) ({ cls := "FlumeOrders$Things", name := "take", desc := "(LFlumeOrders$Word;)Z" } : Jvm.MethodName)) ∈ TW := in_t3 137 (by decide +kernel) rfl
theorem tw_689 : (Jvm.Cond.instanceMethod ({ cls := "FlumeOrders$Things", name := "take", desc := "(LFlumeOrders$Word;)Z" } : Jvm.MethodName)) ∈ TW := in_t3 138 (by decide +kernel) rfl
theorem tw_690 : (Jvm.Cond.selects "FlumeOrders$Things" ({ cls := "FlumeOrders$Things", name := "take", desc := "(LFlumeOrders$Word;)Z" } : Jvm.MethodName) ({ cls := "FlumeOrders$Things", name := "take", desc := "(LFlumeOrders$Word;)Z" } : Jvm.MethodName)) ∈ TW := in_t3 139 (by decide +kernel) rfl
theorem tw_691 : (Jvm.Cond.code ({ cls := "FlumeOrders$Things", name := "take", desc := "(LFlumeOrders$Word;)Z" } : Jvm.MethodName) prog_12_method_11_code (2 : Nat) (Option.some Jvm.ClassFile.FieldType.boolean)) ∈ TW := in_t3 140 (by decide +kernel) rfl
theorem tw_692 : (Jvm.Cond.methodLink "FlumeOrders$Forest" (113 : Nat) ({ cls := "FlumeOrders$Forest", name := "readCamp", desc := "(LFlumeOrders$Things;)V" } : Jvm.MethodName)) ∈ TW := in_t3 141 (by decide +kernel) rfl
theorem tw_694 : (Jvm.Cond.instanceMethod ({ cls := "FlumeOrders$Forest", name := "readCamp", desc := "(LFlumeOrders$Things;)V" } : Jvm.MethodName)) ∈ TW := in_t3 143 (by decide +kernel) rfl
theorem tw_695 : (Jvm.Cond.code ({ cls := "FlumeOrders$Forest", name := "readCamp", desc := "(LFlumeOrders$Things;)V" } : Jvm.MethodName) prog_6_method_5_code (4 : Nat) (Option.none : Option Jvm.ClassFile.FieldType)) ∈ TW := in_t3 144 (by decide +kernel) rfl
theorem tw_696 : (Jvm.Cond.methodLink "FlumeOrders$Forest" (125 : Nat) ({ cls := "FlumeOrders$Things", name := "takeNumber", desc := "(II)I" } : Jvm.MethodName)) ∈ TW := in_t3 145 (by decide +kernel) rfl
theorem tw_697 : (Jvm.Cond.instanceMethod ({ cls := "FlumeOrders$Things", name := "takeNumber", desc := "(II)I" } : Jvm.MethodName)) ∈ TW := in_t3 146 (by decide +kernel) rfl
theorem tw_698 : (Jvm.Cond.selects "FlumeOrders$Things" ({ cls := "FlumeOrders$Things", name := "takeNumber", desc := "(II)I" } : Jvm.MethodName) ({ cls := "FlumeOrders$Things", name := "takeNumber", desc := "(II)I" } : Jvm.MethodName)) ∈ TW := in_t3 147 (by decide +kernel) rfl
theorem tw_699 : (Jvm.Cond.code ({ cls := "FlumeOrders$Things", name := "takeNumber", desc := "(II)I" } : Jvm.MethodName) prog_12_method_13_code (3 : Nat) (Option.some Jvm.ClassFile.FieldType.int)) ∈ TW := in_t3 148 (by decide +kernel) rfl
theorem tw_700 : (Jvm.Cond.methodLink "FlumeOrders$Things" (77 : Nat) ({ cls := "FlumeOrders$Things", name := "refuse", desc := "()V" } : Jvm.MethodName)) ∈ TW := in_t3 149 (by decide +kernel) rfl
theorem tw_701 : (Jvm.Cond.instanceMethod ({ cls := "FlumeOrders$Things", name := "refuse", desc := "()V" } : Jvm.MethodName)) ∈ TW := in_t3 150 (by decide +kernel) rfl
theorem tw_702 : (Jvm.Cond.selects "FlumeOrders$Things" ({ cls := "FlumeOrders$Things", name := "refuse", desc := "()V" } : Jvm.MethodName) ({ cls := "FlumeOrders$Things", name := "refuse", desc := "()V" } : Jvm.MethodName)) ∈ TW := in_t3 151 (by decide +kernel) rfl
theorem tw_703 : (Jvm.Cond.code ({ cls := "FlumeOrders$Things", name := "refuse", desc := "()V" } : Jvm.MethodName) prog_12_method_10_code (1 : Nat) (Option.none : Option Jvm.ClassFile.FieldType)) ∈ TW := in_t3 152 (by decide +kernel) rfl
theorem tw_704 : (Jvm.Cond.methodLink "FlumeOrders$Forest" (135 : Nat) ({ cls := "FlumeOrders$Things", name := "isWrong", desc := "()Z" } : Jvm.MethodName)) ∈ TW := in_t3 153 (by decide +kernel) rfl
theorem tw_705 : (Jvm.Cond.instanceMethod ({ cls := "FlumeOrders$Things", name := "isWrong", desc := "()Z" } : Jvm.MethodName)) ∈ TW := in_t3 154 (by decide +kernel) rfl
theorem tw_706 : (Jvm.Cond.selects "FlumeOrders$Things" ({ cls := "FlumeOrders$Things", name := "isWrong", desc := "()Z" } : Jvm.MethodName) ({ cls := "FlumeOrders$Things", name := "isWrong", desc := "()Z" } : Jvm.MethodName)) ∈ TW := in_t3 155 (by decide +kernel) rfl
theorem tw_707 : (Jvm.Cond.code ({ cls := "FlumeOrders$Things", name := "isWrong", desc := "()Z" } : Jvm.MethodName) prog_12_method_8_code (1 : Nat) (Option.some Jvm.ClassFile.FieldType.boolean)) ∈ TW := in_t3 156 (by decide +kernel) rfl
theorem tw_708 : (Jvm.Cond.methodLink "FlumeOrders$Forest" (138 : Nat) ({ cls := "FlumeOrders$Forest", name := "addCamp", desc := "(II)V" } : Jvm.MethodName)) ∈ TW := in_t3 157 (by decide +kernel) rfl
theorem tw_710 : (Jvm.Cond.instanceMethod ({ cls := "FlumeOrders$Forest", name := "addCamp", desc := "(II)V" } : Jvm.MethodName)) ∈ TW := in_t3 159 (by decide +kernel) rfl
theorem tw_711 : (Jvm.Cond.code ({ cls := "FlumeOrders$Forest", name := "addCamp", desc := "(II)V" } : Jvm.MethodName) prog_6_method_8_code (3 : Nat) (Option.none : Option Jvm.ClassFile.FieldType)) ∈ TW := in_t3 160 (by decide +kernel) rfl
theorem tw_712 : (Jvm.Cond.methodLink "FlumeOrders$Forest" (152 : Nat) ({ cls := "FlumeOrders$Camp", name := "begin", desc := "(I)V" } : Jvm.MethodName)) ∈ TW := in_t3 161 (by decide +kernel) rfl
theorem tw_713 : (Jvm.Cond.instanceMethod ({ cls := "FlumeOrders$Camp", name := "begin", desc := "(I)V" } : Jvm.MethodName)) ∈ TW := in_t3 162 (by decide +kernel) rfl
theorem tw_714 : (Jvm.Cond.selects "FlumeOrders$Camp" ({ cls := "FlumeOrders$Camp", name := "begin", desc := "(I)V" } : Jvm.MethodName) ({ cls := "FlumeOrders$Camp", name := "begin", desc := "(I)V" } : Jvm.MethodName)) ∈ TW := in_t3 163 (by decide +kernel) rfl
theorem tw_715 : (Jvm.Cond.code ({ cls := "FlumeOrders$Camp", name := "begin", desc := "(I)V" } : Jvm.MethodName) prog_3_method_2_code (2 : Nat) (Option.none : Option Jvm.ClassFile.FieldType)) ∈ TW := in_t3 164 (by decide +kernel) rfl
theorem tw_716 : (Jvm.Cond.methodLink "FlumeOrders$Forest" (148 : Nat) ({ cls := "FlumeOrders$Forest", name := "setReach", desc := "(IIII)V" } : Jvm.MethodName)) ∈ TW := in_t3 165 (by decide +kernel) rfl
theorem tw_718 : (Jvm.Cond.instanceMethod ({ cls := "FlumeOrders$Forest", name := "setReach", desc := "(IIII)V" } : Jvm.MethodName)) ∈ TW := in_t3 167 (by decide +kernel) rfl
theorem tw_719 : (Jvm.Cond.code ({ cls := "FlumeOrders$Forest", name := "setReach", desc := "(IIII)V" } : Jvm.MethodName) prog_6_method_9_code (6 : Nat) (Option.none : Option Jvm.ClassFile.FieldType)) ∈ TW := in_t3 168 (by decide +kernel) rfl
theorem tw_720 : (Jvm.Cond.fieldLink "FlumeOrders$Forest" (116 : Nat) "FlumeOrders$Word" "REACH" "LFlumeOrders$Word;") ∈ TW := in_t3 169 (by decide +kernel) rfl
theorem tw_722 : (Jvm.Cond.methodLink "FlumeOrders$Forest" (119 : Nat) ({ cls := "FlumeOrders$Forest", name := "readReach", desc := "(LFlumeOrders$Things;)V" } : Jvm.MethodName)) ∈ TW := in_t3 171 (by decide +kernel) rfl
theorem tw_724 : (Jvm.Cond.instanceMethod ({ cls := "FlumeOrders$Forest", name := "readReach", desc := "(LFlumeOrders$Things;)V" } : Jvm.MethodName)) ∈ TW := in_t3 173 (by decide +kernel) rfl
theorem tw_725 : (Jvm.Cond.code ({ cls := "FlumeOrders$Forest", name := "readReach", desc := "(LFlumeOrders$Things;)V" } : Jvm.MethodName) prog_6_method_6_code (6 : Nat) (Option.none : Option Jvm.ClassFile.FieldType)) ∈ TW := in_t3 174 (by decide +kernel) rfl
theorem tw_726 : (Jvm.Cond.fieldLink "FlumeOrders$Forest" (142 : Nat) "FlumeOrders$Word" "STICK" "LFlumeOrders$Word;") ∈ TW := in_t3 175 (by decide +kernel) rfl
theorem tw_728 : (Jvm.Cond.fieldLink "FlumeOrders$Forest" (145 : Nat) "FlumeOrders$Word" "BEND" "LFlumeOrders$Word;") ∈ TW := in_t3 177 (by decide +kernel) rfl
theorem tw_730 : (Jvm.Cond.fieldLink "FlumeOrders$Forest" (122 : Nat) "FlumeOrders$Word" "WATER" "LFlumeOrders$Word;") ∈ TW := in_t3 179 (by decide +kernel) rfl
theorem tw_732 : (Jvm.Cond.fieldLink "FlumeOrders$Forest" (129 : Nat) "FlumeOrders$Word" "FROST" "LFlumeOrders$Word;") ∈ TW := in_t3 181 (by decide +kernel) rfl
theorem tw_734 : (Jvm.Cond.fieldLink "FlumeOrders$Forest" (132 : Nat) "FlumeOrders$Word" "SEED" "LFlumeOrders$Word;") ∈ TW := in_t3 183 (by decide +kernel) rfl
theorem tw_736 : (Jvm.Cond.methodLink "FlumeOrders$Forest" (104 : Nat) ({ cls := "FlumeOrders$Things", name := "refuse", desc := "()V" } : Jvm.MethodName)) ∈ TW := in_t3 185 (by decide +kernel) rfl
theorem tw_737 : (Jvm.Cond.fieldLink "FlumeOrders$Forest" (94 : Nat) "FlumeOrders$Word" "SEMICOLON" "LFlumeOrders$Word;") ∈ TW := in_t3 186 (by decide +kernel) rfl
theorem tw_739 : (Jvm.Cond.methodLink "FlumeOrders" (78 : Nat) ({ cls := "FlumeOrders$Things", name := "isWrong", desc := "()Z" } : Jvm.MethodName)) ∈ TW := in_t3 188 (by decide +kernel) rfl
theorem tw_740 : (Jvm.Cond.classLink "FlumeOrders" (82 : Nat) "java/lang/IllegalArgumentException") ∈ TW := in_t3 189 (by decide +kernel) rfl
theorem tw_741 : (Jvm.Cond.instantiable "java/lang/IllegalArgumentException" (6 : Nat)) ∈ TW := in_t3 190 (by decide +kernel) rfl
theorem tw_749 : (Jvm.Cond.selects "java/lang/IllegalArgumentException" ({ cls := "java/lang/Throwable", name := "fillInStackTrace", desc := "(I)Ljava/lang/Throwable;" } : Jvm.MethodName) ({ cls := "java/lang/Throwable", name := "fillInStackTrace", desc := "(I)Ljava/lang/Throwable;" } : Jvm.MethodName)) ∈ TW := in_t3 198 (by decide +kernel) rfl
theorem tw_750 : (Jvm.Cond.selects "java/lang/IllegalArgumentException" ({ cls := "java/lang/Throwable", name := "fillInStackTrace", desc := "()Ljava/lang/Throwable;" } : Jvm.MethodName) ({ cls := "java/lang/Throwable", name := "fillInStackTrace", desc := "()Ljava/lang/Throwable;" } : Jvm.MethodName)) ∈ TW := in_t3 199 (by decide +kernel) rfl
theorem tw_751 : (Jvm.Cond.lays "java/lang/IllegalArgumentException" "java/lang/Throwable" "cause" "Ljava/lang/Throwable;") ∈ TW := in_t3 200 (by decide +kernel) rfl
theorem tw_752 : (Jvm.Cond.lays "java/lang/Throwable" "java/lang/Throwable" "cause" "Ljava/lang/Throwable;") ∈ TW := in_t3 201 (by decide +kernel) rfl
theorem tw_753 : (Jvm.Cond.lays "java/lang/IllegalArgumentException" "java/lang/Throwable" "stackTrace" "[Ljava/lang/StackTraceElement;") ∈ TW := in_t3 202 (by decide +kernel) rfl
theorem tw_754 : (Jvm.Cond.lays "java/lang/Throwable" "java/lang/Throwable" "stackTrace" "[Ljava/lang/StackTraceElement;") ∈ TW := in_t3 203 (by decide +kernel) rfl
theorem tw_755 : (Jvm.Cond.lays "java/lang/IllegalArgumentException" "java/lang/Throwable" "suppressedExceptions" "Ljava/util/List;") ∈ TW := in_t3 204 (by decide +kernel) rfl
theorem tw_756 : (Jvm.Cond.lays "java/lang/Throwable" "java/lang/Throwable" "suppressedExceptions" "Ljava/util/List;") ∈ TW := in_t3 205 (by decide +kernel) rfl
theorem tw_757 : (Jvm.Cond.lays "java/lang/IllegalArgumentException" "java/lang/Throwable" "detailMessage" "Ljava/lang/String;") ∈ TW := in_t3 206 (by decide +kernel) rfl
theorem tw_758 : (Jvm.Cond.lays "java/lang/Throwable" "java/lang/Throwable" "detailMessage" "Ljava/lang/String;") ∈ TW := in_t3 207 (by decide +kernel) rfl
theorem tw_759 : (Jvm.Cond.lays "java/lang/IllegalArgumentException" "java/lang/Throwable" "backtrace" "Ljava/lang/Object;") ∈ TW := in_t3 208 (by decide +kernel) rfl
theorem tw_760 : (Jvm.Cond.lays "java/lang/Throwable" "java/lang/Throwable" "backtrace" "Ljava/lang/Object;") ∈ TW := in_t3 209 (by decide +kernel) rfl
theorem tw_761 : (Jvm.Cond.fieldLink "java/lang/Throwable" (198 : Nat) "java/lang/Throwable" "backtrace" "Ljava/lang/Object;") ∈ TW := in_t3 210 (by decide +kernel) rfl
theorem tw_763 : (Jvm.Cond.instanceMethod ({ cls := "java/lang/Throwable", name := "<init>", desc := "()V" } : Jvm.MethodName)) ∈ TW := in_t3 212 (by decide +kernel) rfl
theorem tw_764 : (Jvm.Cond.code ({ cls := "java/lang/Throwable", name := "<init>", desc := "()V" } : Jvm.MethodName) prog_30_method_1_code (1 : Nat) (Option.none : Option Jvm.ClassFile.FieldType)) ∈ TW := in_t3 213 (by decide +kernel) rfl
theorem tw_765 : (Jvm.Cond.methodLink "java/lang/Throwable" (1 : Nat) ({ cls := "java/lang/Object", name := "<init>", desc := "()V" } : Jvm.MethodName)) ∈ TW := in_t3 214 (by decide +kernel) rfl
theorem tw_766 : (Jvm.Cond.fieldLink "java/lang/Throwable" (13 : Nat) "java/lang/Throwable" "UNASSIGNED_STACK" "[Ljava/lang/StackTraceElement;") ∈ TW := in_t3 215 (by decide +kernel) rfl
theorem tw_768 : (Jvm.Cond.fieldLink "java/lang/Throwable" (20 : Nat) "java/lang/Throwable" "SUPPRESSED_SENTINEL" "Ljava/util/List;") ∈ TW := in_t3 217 (by decide +kernel) rfl
theorem tw_770 : (Jvm.Cond.methodLink "java/lang/Throwable" (27 : Nat) ({ cls := "java/lang/Throwable", name := "fillInStackTrace", desc := "()Ljava/lang/Throwable;" } : Jvm.MethodName)) ∈ TW := in_t3 219 (by decide +kernel) rfl
theorem tw_771 : (Jvm.Cond.instanceMethod ({ cls := "java/lang/Throwable", name := "fillInStackTrace", desc := "()Ljava/lang/Throwable;" } : Jvm.MethodName)) ∈ TW := in_t3 220 (by decide +kernel) rfl
theorem tw_772 : (Jvm.Cond.sameMethod "java/lang/Throwable" "java/lang/Throwable" "fillInStackTrace" "()Ljava/lang/Throwable;") ∈ TW := in_t3 221 (by decide +kernel) rfl
theorem tw_773 : (Jvm.Cond.selects "java/lang/IndexOutOfBoundsException" ({ cls := "java/lang/Throwable", name := "fillInStackTrace", desc := "()Ljava/lang/Throwable;" } : Jvm.MethodName) ({ cls := "java/lang/Throwable", name := "fillInStackTrace", desc := "()Ljava/lang/Throwable;" } : Jvm.MethodName)) ∈ TW := in_t3 222 (by decide +kernel) rfl
theorem tw_774 : (Jvm.Cond.selects "java/lang/UnsupportedOperationException" ({ cls := "java/lang/Throwable", name := "fillInStackTrace", desc := "()Ljava/lang/Throwable;" } : Jvm.MethodName) ({ cls := "java/lang/Throwable", name := "fillInStackTrace", desc := "()Ljava/lang/Throwable;" } : Jvm.MethodName)) ∈ TW := in_t3 223 (by decide +kernel) rfl
theorem tw_775 : (Jvm.Cond.selects "java/util/NoSuchElementException" ({ cls := "java/lang/Throwable", name := "fillInStackTrace", desc := "()Ljava/lang/Throwable;" } : Jvm.MethodName) ({ cls := "java/lang/Throwable", name := "fillInStackTrace", desc := "()Ljava/lang/Throwable;" } : Jvm.MethodName)) ∈ TW := in_t3 224 (by decide +kernel) rfl
theorem tw_777 : (Jvm.Cond.methodLink "java/lang/Throwable" (202 : Nat) ({ cls := "java/lang/Throwable", name := "fillInStackTrace", desc := "(I)Ljava/lang/Throwable;" } : Jvm.MethodName)) ∈ TW := in_t3 226 (by decide +kernel) rfl
theorem tw_779 : (Jvm.Cond.instanceMethod ({ cls := "java/lang/Throwable", name := "fillInStackTrace", desc := "(I)Ljava/lang/Throwable;" } : Jvm.MethodName)) ∈ TW := in_t3 228 (by decide +kernel) rfl
theorem tw_780 : (Jvm.Cond.instantiable "java/lang/Throwable" (6 : Nat)) ∈ TW := in_t3 229 (by decide +kernel) rfl
theorem tw_781 : (Jvm.Cond.native ({ cls := "java/lang/Throwable", name := "fillInStackTrace", desc := "(I)Ljava/lang/Throwable;" } : Jvm.MethodName)) ∈ TW := in_t3 230 (by decide +kernel) rfl
theorem tw_782 : (Jvm.Cond.methodLink "FlumeOrders" (84 : Nat) ({ cls := "java/lang/IllegalArgumentException", name := "<init>", desc := "()V" } : Jvm.MethodName)) ∈ TW := in_t3 231 (by decide +kernel) rfl
theorem tw_783 : (Jvm.Cond.instanceMethod ({ cls := "java/lang/IllegalArgumentException", name := "<init>", desc := "()V" } : Jvm.MethodName)) ∈ TW := in_t3 232 (by decide +kernel) rfl
theorem tw_784 : (Jvm.Cond.code ({ cls := "java/lang/IllegalArgumentException", name := "<init>", desc := "()V" } : Jvm.MethodName) prog_21_method_1_code (1 : Nat) (Option.none : Option Jvm.ClassFile.FieldType)) ∈ TW := in_t3 233 (by decide +kernel) rfl
theorem tw_785 : (Jvm.Cond.methodLink "java/lang/IllegalArgumentException" (1 : Nat) ({ cls := "java/lang/RuntimeException", name := "<init>", desc := "()V" } : Jvm.MethodName)) ∈ TW := in_t3 234 (by decide +kernel) rfl
theorem tw_786 : (Jvm.Cond.instanceMethod ({ cls := "java/lang/RuntimeException", name := "<init>", desc := "()V" } : Jvm.MethodName)) ∈ TW := in_t3 235 (by decide +kernel) rfl
theorem tw_787 : (Jvm.Cond.code ({ cls := "java/lang/RuntimeException", name := "<init>", desc := "()V" } : Jvm.MethodName) prog_25_method_1_code (1 : Nat) (Option.none : Option Jvm.ClassFile.FieldType)) ∈ TW := in_t3 236 (by decide +kernel) rfl
theorem tw_788 : (Jvm.Cond.methodLink "java/lang/RuntimeException" (1 : Nat) ({ cls := "java/lang/Exception", name := "<init>", desc := "()V" } : Jvm.MethodName)) ∈ TW := in_t3 237 (by decide +kernel) rfl
theorem tw_789 : (Jvm.Cond.instanceMethod ({ cls := "java/lang/Exception", name := "<init>", desc := "()V" } : Jvm.MethodName)) ∈ TW := in_t3 238 (by decide +kernel) rfl
theorem tw_790 : (Jvm.Cond.code ({ cls := "java/lang/Exception", name := "<init>", desc := "()V" } : Jvm.MethodName) prog_20_method_1_code (1 : Nat) (Option.none : Option Jvm.ClassFile.FieldType)) ∈ TW := in_t3 239 (by decide +kernel) rfl
theorem tw_791 : (Jvm.Cond.methodLink "java/lang/Exception" (1 : Nat) ({ cls := "java/lang/Throwable", name := "<init>", desc := "()V" } : Jvm.MethodName)) ∈ TW := in_t4 0 (by decide +kernel) rfl
theorem tw_792 : (Jvm.Cond.fieldLink "java/lang/Throwable" (198 : Nat) "java/lang/Throwable" "backtrace" "Ljava/lang/Object;") ∈ TW := in_t4 1 (by decide +kernel) rfl
theorem tw_793 : (Jvm.Cond.fieldLink "java/lang/Throwable" (7 : Nat) "java/lang/Throwable" "cause" "Ljava/lang/Throwable;") ∈ TW := in_t4 2 (by decide +kernel) rfl
theorem tw_794 : (Jvm.Cond.fieldLink "java/lang/Throwable" (17 : Nat) "java/lang/Throwable" "stackTrace" "[Ljava/lang/StackTraceElement;") ∈ TW := in_t4 3 (by decide +kernel) rfl
theorem tw_795 : (Jvm.Cond.fieldLink "java/lang/Throwable" (24 : Nat) "java/lang/Throwable" "suppressedExceptions" "Ljava/util/List;") ∈ TW := in_t4 4 (by decide +kernel) rfl
theorem tw_800 : (Jvm.Cond.lays "java/lang/IllegalArgumentException" "java/lang/Throwable" "depth" "I") ∈ TW := in_t4 9 (by decide +kernel) rfl
theorem tw_804 : (Jvm.Cond.classLink "FlumeOrders" (88 : Nat) "java/lang/UnsupportedOperationException") ∈ TW := in_t4 13 (by decide +kernel) rfl
theorem tw_805 : (Jvm.Cond.instantiable "java/lang/UnsupportedOperationException" (6 : Nat)) ∈ TW := in_t4 14 (by decide +kernel) rfl
theorem tw_807 : (Jvm.Cond.selects "java/lang/UnsupportedOperationException" ({ cls := "java/lang/Throwable", name := "fillInStackTrace", desc := "(I)Ljava/lang/Throwable;" } : Jvm.MethodName) ({ cls := "java/lang/Throwable", name := "fillInStackTrace", desc := "(I)Ljava/lang/Throwable;" } : Jvm.MethodName)) ∈ TW := in_t4 16 (by decide +kernel) rfl
theorem tw_808 : (Jvm.Cond.lays "java/lang/UnsupportedOperationException" "java/lang/Throwable" "cause" "Ljava/lang/Throwable;") ∈ TW := in_t4 17 (by decide +kernel) rfl
theorem tw_809 : (Jvm.Cond.lays "java/lang/UnsupportedOperationException" "java/lang/Throwable" "stackTrace" "[Ljava/lang/StackTraceElement;") ∈ TW := in_t4 18 (by decide +kernel) rfl
theorem tw_810 : (Jvm.Cond.lays "java/lang/UnsupportedOperationException" "java/lang/Throwable" "suppressedExceptions" "Ljava/util/List;") ∈ TW := in_t4 19 (by decide +kernel) rfl
theorem tw_811 : (Jvm.Cond.lays "java/lang/UnsupportedOperationException" "java/lang/Throwable" "detailMessage" "Ljava/lang/String;") ∈ TW := in_t4 20 (by decide +kernel) rfl
theorem tw_812 : (Jvm.Cond.lays "java/lang/UnsupportedOperationException" "java/lang/Throwable" "backtrace" "Ljava/lang/Object;") ∈ TW := in_t4 21 (by decide +kernel) rfl
theorem tw_813 : (Jvm.Cond.methodLink "FlumeOrders" (90 : Nat) ({ cls := "java/lang/UnsupportedOperationException", name := "<init>", desc := "()V" } : Jvm.MethodName)) ∈ TW := in_t4 22 (by decide +kernel) rfl
theorem tw_814 : (Jvm.Cond.instanceMethod ({ cls := "java/lang/UnsupportedOperationException", name := "<init>", desc := "()V" } : Jvm.MethodName)) ∈ TW := in_t4 23 (by decide +kernel) rfl
theorem tw_815 : (Jvm.Cond.code ({ cls := "java/lang/UnsupportedOperationException", name := "<init>", desc := "()V" } : Jvm.MethodName) prog_31_method_1_code (1 : Nat) (Option.none : Option Jvm.ClassFile.FieldType)) ∈ TW := in_t4 24 (by decide +kernel) rfl
theorem tw_816 : (Jvm.Cond.methodLink "java/lang/UnsupportedOperationException" (1 : Nat) ({ cls := "java/lang/RuntimeException", name := "<init>", desc := "()V" } : Jvm.MethodName)) ∈ TW := in_t4 25 (by decide +kernel) rfl
theorem tw_817 : (Jvm.Cond.lays "java/lang/UnsupportedOperationException" "java/lang/Throwable" "depth" "I") ∈ TW := in_t4 26 (by decide +kernel) rfl
theorem tw_819 : (Jvm.Cond.methodLink "FlumeOrdersLaw" (96 : Nat) ({ cls := "FlumeOrdersLaw", name := "chip", desc := "(LFlumeOrders;II[J)I" } : Jvm.MethodName)) ∈ TW := in_t4 28 (by decide +kernel) rfl
theorem tw_820 : (Jvm.Cond.static ({ cls := "FlumeOrdersLaw", name := "chip", desc := "(LFlumeOrders;II[J)I" } : Jvm.MethodName)) ∈ TW := in_t4 29 (by decide +kernel) rfl
theorem tw_821 : (Jvm.Cond.codeWith ({ cls := "FlumeOrdersLaw", name := "chip", desc := "(LFlumeOrders;II[J)I" } : Jvm.MethodName) method_4_code (5 : Nat) (Option.some Jvm.ClassFile.FieldType.int) [((0 : Nat), (10 : Nat), (13 : Nat), (21 : Nat)), ((0 : Nat), (10 : Nat), (17 : Nat), (13 : Nat)), ((0 : Nat), (10 : Nat), (21 : Nat), (15 : Nat))]) ∈ TW := in_t4 30 (by decide +kernel) rfl
theorem tw_822 : (Jvm.Cond.classLink "FlumeOrdersLaw" (21 : Nat) "java/lang/IndexOutOfBoundsException") ∈ TW := in_t4 31 (by decide +kernel) rfl
theorem tw_823 : (Jvm.Cond.methodLink "FlumeOrdersLaw" (17 : Nat) ({ cls := "FlumeOrders", name := "chip", desc := "(II)I" } : Jvm.MethodName)) ∈ TW := in_t4 32 (by decide +kernel) rfl
theorem tw_824 : (Jvm.Cond.instanceMethod ({ cls := "FlumeOrders", name := "chip", desc := "(II)I" } : Jvm.MethodName)) ∈ TW := in_t4 33 (by decide +kernel) rfl
theorem tw_825 : (Jvm.Cond.selects "FlumeOrders" ({ cls := "FlumeOrders", name := "chip", desc := "(II)I" } : Jvm.MethodName) ({ cls := "FlumeOrders", name := "chip", desc := "(II)I" } : Jvm.MethodName)) ∈ TW := in_t4 34 (by decide +kernel) rfl
theorem tw_826 : (Jvm.Cond.code ({ cls := "FlumeOrders", name := "chip", desc := "(II)I" } : Jvm.MethodName) prog_1_method_5_code (5 : Nat) (Option.some Jvm.ClassFile.FieldType.int)) ∈ TW := in_t4 35 (by decide +kernel) rfl
theorem tw_827 : (Jvm.Cond.classLink "FlumeOrders" (94 : Nat) "java/lang/IndexOutOfBoundsException") ∈ TW := in_t4 36 (by decide +kernel) rfl
theorem tw_828 : (Jvm.Cond.instantiable "java/lang/IndexOutOfBoundsException" (6 : Nat)) ∈ TW := in_t4 37 (by decide +kernel) rfl
theorem tw_830 : (Jvm.Cond.selects "java/lang/IndexOutOfBoundsException" ({ cls := "java/lang/Throwable", name := "fillInStackTrace", desc := "(I)Ljava/lang/Throwable;" } : Jvm.MethodName) ({ cls := "java/lang/Throwable", name := "fillInStackTrace", desc := "(I)Ljava/lang/Throwable;" } : Jvm.MethodName)) ∈ TW := in_t4 39 (by decide +kernel) rfl
theorem tw_831 : (Jvm.Cond.lays "java/lang/IndexOutOfBoundsException" "java/lang/Throwable" "cause" "Ljava/lang/Throwable;") ∈ TW := in_t4 40 (by decide +kernel) rfl
theorem tw_832 : (Jvm.Cond.lays "java/lang/IndexOutOfBoundsException" "java/lang/Throwable" "stackTrace" "[Ljava/lang/StackTraceElement;") ∈ TW := in_t4 41 (by decide +kernel) rfl
theorem tw_833 : (Jvm.Cond.lays "java/lang/IndexOutOfBoundsException" "java/lang/Throwable" "suppressedExceptions" "Ljava/util/List;") ∈ TW := in_t4 42 (by decide +kernel) rfl
theorem tw_834 : (Jvm.Cond.lays "java/lang/IndexOutOfBoundsException" "java/lang/Throwable" "detailMessage" "Ljava/lang/String;") ∈ TW := in_t4 43 (by decide +kernel) rfl
theorem tw_835 : (Jvm.Cond.lays "java/lang/IndexOutOfBoundsException" "java/lang/Throwable" "backtrace" "Ljava/lang/Object;") ∈ TW := in_t4 44 (by decide +kernel) rfl
theorem tw_836 : (Jvm.Cond.methodLink "FlumeOrders" (96 : Nat) ({ cls := "java/lang/IndexOutOfBoundsException", name := "<init>", desc := "()V" } : Jvm.MethodName)) ∈ TW := in_t4 45 (by decide +kernel) rfl
theorem tw_837 : (Jvm.Cond.instanceMethod ({ cls := "java/lang/IndexOutOfBoundsException", name := "<init>", desc := "()V" } : Jvm.MethodName)) ∈ TW := in_t4 46 (by decide +kernel) rfl
theorem tw_838 : (Jvm.Cond.code ({ cls := "java/lang/IndexOutOfBoundsException", name := "<init>", desc := "()V" } : Jvm.MethodName) prog_22_method_1_code (1 : Nat) (Option.none : Option Jvm.ClassFile.FieldType)) ∈ TW := in_t4 47 (by decide +kernel) rfl
theorem tw_839 : (Jvm.Cond.methodLink "java/lang/IndexOutOfBoundsException" (1 : Nat) ({ cls := "java/lang/RuntimeException", name := "<init>", desc := "()V" } : Jvm.MethodName)) ∈ TW := in_t4 48 (by decide +kernel) rfl
theorem tw_840 : (Jvm.Cond.lays "java/lang/IndexOutOfBoundsException" "java/lang/Throwable" "depth" "I") ∈ TW := in_t4 49 (by decide +kernel) rfl
theorem tw_842 : (Jvm.Cond.methodLink "FlumeOrders" (97 : Nat) ({ cls := "FlumeOrders", name := "demandWeight", desc := "(I)V" } : Jvm.MethodName)) ∈ TW := in_t4 51 (by decide +kernel) rfl
theorem tw_843 : (Jvm.Cond.static ({ cls := "FlumeOrders", name := "demandWeight", desc := "(I)V" } : Jvm.MethodName)) ∈ TW := in_t4 52 (by decide +kernel) rfl
theorem tw_844 : (Jvm.Cond.code ({ cls := "FlumeOrders", name := "demandWeight", desc := "(I)V" } : Jvm.MethodName) prog_1_method_32_code (1 : Nat) (Option.none : Option Jvm.ClassFile.FieldType)) ∈ TW := in_t4 53 (by decide +kernel) rfl
theorem tw_845 : (Jvm.Cond.methodLink "FlumeOrders" (107 : Nat) ({ cls := "FlumeOrders$Notches", name := "read", desc := "(LFlumeOrders$Things;)V" } : Jvm.MethodName)) ∈ TW := in_t4 54 (by decide +kernel) rfl
theorem tw_846 : (Jvm.Cond.instanceMethod ({ cls := "FlumeOrders$Notches", name := "read", desc := "(LFlumeOrders$Things;)V" } : Jvm.MethodName)) ∈ TW := in_t4 55 (by decide +kernel) rfl
theorem tw_847 : (Jvm.Cond.selects "FlumeOrders$Notches" ({ cls := "FlumeOrders$Notches", name := "read", desc := "(LFlumeOrders$Things;)V" } : Jvm.MethodName) ({ cls := "FlumeOrders$Notches", name := "read", desc := "(LFlumeOrders$Things;)V" } : Jvm.MethodName)) ∈ TW := in_t4 56 (by decide +kernel) rfl
theorem tw_848 : (Jvm.Cond.code ({ cls := "FlumeOrders$Notches", name := "read", desc := "(LFlumeOrders$Things;)V" } : Jvm.MethodName) prog_7_method_2_code (3 : Nat) (Option.none : Option Jvm.ClassFile.FieldType)) ∈ TW := in_t4 57 (by decide +kernel) rfl
theorem tw_849 : (Jvm.Cond.methodLink "FlumeOrders$Notches" (37 : Nat) ({ cls := "FlumeOrders$Notches", name := "readHead", desc := "(LFlumeOrders$Things;)V" } : Jvm.MethodName)) ∈ TW := in_t4 58 (by decide +kernel) rfl
theorem tw_851 : (Jvm.Cond.instanceMethod ({ cls := "FlumeOrders$Notches", name := "readHead", desc := "(LFlumeOrders$Things;)V" } : Jvm.MethodName)) ∈ TW := in_t4 60 (by decide +kernel) rfl
theorem tw_852 : (Jvm.Cond.code ({ cls := "FlumeOrders$Notches", name := "readHead", desc := "(LFlumeOrders$Things;)V" } : Jvm.MethodName) prog_7_method_3_code (2 : Nat) (Option.none : Option Jvm.ClassFile.FieldType)) ∈ TW := in_t4 61 (by decide +kernel) rfl
theorem tw_853 : (Jvm.Cond.fieldLink "FlumeOrders$Notches" (61 : Nat) "FlumeOrders$Word" "TO" "LFlumeOrders$Word;") ∈ TW := in_t4 62 (by decide +kernel) rfl
theorem tw_855 : (Jvm.Cond.methodLink "FlumeOrders$Notches" (45 : Nat) ({ cls := "FlumeOrders$Things", name := "take", desc := "(LFlumeOrders$Word;)Z" } : Jvm.MethodName)) ∈ TW := in_t4 64 (by decide +kernel) rfl
theorem tw_856 : (Jvm.Cond.methodLink "FlumeOrders$Notches" (64 : Nat) ({ cls := "FlumeOrders$Things", name := "takeNumber", desc := "(II)I" } : Jvm.MethodName)) ∈ TW := in_t4 65 (by decide +kernel) rfl
theorem tw_857 : (Jvm.Cond.fieldLink "FlumeOrders$Notches" (71 : Nat) "FlumeOrders$Word" "ALL" "LFlumeOrders$Word;") ∈ TW := in_t4 66 (by decide +kernel) rfl
theorem tw_859 : (Jvm.Cond.fieldLink "FlumeOrders$Notches" (74 : Nat) "FlumeOrders$Word" "MILL" "LFlumeOrders$Word;") ∈ TW := in_t4 68 (by decide +kernel) rfl
theorem tw_861 : (Jvm.Cond.methodLink "FlumeOrders$Notches" (77 : Nat) ({ cls := "FlumeOrders$Things", name := "demand", desc := "(LFlumeOrders$Word;)V" } : Jvm.MethodName)) ∈ TW := in_t4 70 (by decide +kernel) rfl
theorem tw_862 : (Jvm.Cond.instanceMethod ({ cls := "FlumeOrders$Things", name := "demand", desc := "(LFlumeOrders$Word;)V" } : Jvm.MethodName)) ∈ TW := in_t4 71 (by decide +kernel) rfl
theorem tw_863 : (Jvm.Cond.selects "FlumeOrders$Things" ({ cls := "FlumeOrders$Things", name := "demand", desc := "(LFlumeOrders$Word;)V" } : Jvm.MethodName) ({ cls := "FlumeOrders$Things", name := "demand", desc := "(LFlumeOrders$Word;)V" } : Jvm.MethodName)) ∈ TW := in_t4 72 (by decide +kernel) rfl
theorem tw_864 : (Jvm.Cond.code ({ cls := "FlumeOrders$Things", name := "demand", desc := "(LFlumeOrders$Word;)V" } : Jvm.MethodName) prog_12_method_12_code (2 : Nat) (Option.none : Option Jvm.ClassFile.FieldType)) ∈ TW := in_t4 73 (by decide +kernel) rfl
theorem tw_865 : (Jvm.Cond.methodLink "FlumeOrders$Things" (73 : Nat) ({ cls := "FlumeOrders$Things", name := "take", desc := "(LFlumeOrders$Word;)Z" } : Jvm.MethodName)) ∈ TW := in_t4 74 (by decide +kernel) rfl
theorem tw_866 : (Jvm.Cond.fieldLink "FlumeOrders$Notches" (41 : Nat) "FlumeOrders$Word" "SEMICOLON" "LFlumeOrders$Word;") ∈ TW := in_t4 75 (by decide +kernel) rfl
theorem tw_867 : (Jvm.Cond.methodLink "FlumeOrders$Notches" (51 : Nat) ({ cls := "FlumeOrders$Notches", name := "readAct", desc := "(LFlumeOrders$Things;)V" } : Jvm.MethodName)) ∈ TW := in_t4 76 (by decide +kernel) rfl
theorem tw_869 : (Jvm.Cond.instanceMethod ({ cls := "FlumeOrders$Notches", name := "readAct", desc := "(LFlumeOrders$Things;)V" } : Jvm.MethodName)) ∈ TW := in_t4 78 (by decide +kernel) rfl
theorem tw_870 : (Jvm.Cond.code ({ cls := "FlumeOrders$Notches", name := "readAct", desc := "(LFlumeOrders$Things;)V" } : Jvm.MethodName) prog_7_method_4_code (2 : Nat) (Option.none : Option Jvm.ClassFile.FieldType)) ∈ TW := in_t4 79 (by decide +kernel) rfl
theorem tw_871 : (Jvm.Cond.fieldLink "FlumeOrders$Notches" (81 : Nat) "FlumeOrders$Word" "VOID" "LFlumeOrders$Word;") ∈ TW := in_t4 80 (by decide +kernel) rfl
theorem tw_873 : (Jvm.Cond.methodLink "FlumeOrders$Notches" (84 : Nat) ({ cls := "FlumeOrders$Notches", name := "addAct", desc := "(LFlumeOrders$Word;I)V" } : Jvm.MethodName)) ∈ TW := in_t4 82 (by decide +kernel) rfl
theorem tw_875 : (Jvm.Cond.instanceMethod ({ cls := "FlumeOrders$Notches", name := "addAct", desc := "(LFlumeOrders$Word;I)V" } : Jvm.MethodName)) ∈ TW := in_t4 84 (by decide +kernel) rfl
theorem tw_876 : (Jvm.Cond.code ({ cls := "FlumeOrders$Notches", name := "addAct", desc := "(LFlumeOrders$Word;I)V" } : Jvm.MethodName) prog_7_method_9_code (3 : Nat) (Option.none : Option Jvm.ClassFile.FieldType)) ∈ TW := in_t4 85 (by decide +kernel) rfl
theorem tw_877 : (Jvm.Cond.fieldLink "FlumeOrders$Notches" (88 : Nat) "FlumeOrders$Word" "CUT" "LFlumeOrders$Word;") ∈ TW := in_t4 86 (by decide +kernel) rfl
theorem tw_879 : (Jvm.Cond.fieldLink "FlumeOrders$Notches" (91 : Nat) "FlumeOrders$Word" "SEND" "LFlumeOrders$Word;") ∈ TW := in_t4 88 (by decide +kernel) rfl
theorem tw_881 : (Jvm.Cond.fieldLink "FlumeOrders$Notches" (94 : Nat) "FlumeOrders$Word" "ANSWER" "LFlumeOrders$Word;") ∈ TW := in_t4 90 (by decide +kernel) rfl
theorem tw_883 : (Jvm.Cond.fieldLink "FlumeOrders$Notches" (97 : Nat) "FlumeOrders$Word" "IF" "LFlumeOrders$Word;") ∈ TW := in_t4 92 (by decide +kernel) rfl
theorem tw_885 : (Jvm.Cond.methodLink "FlumeOrders$Notches" (100 : Nat) ({ cls := "FlumeOrders$Notches", name := "question", desc := "(LFlumeOrders$Things;I)V" } : Jvm.MethodName)) ∈ TW := in_t4 94 (by decide +kernel) rfl
theorem tw_887 : (Jvm.Cond.instanceMethod ({ cls := "FlumeOrders$Notches", name := "question", desc := "(LFlumeOrders$Things;I)V" } : Jvm.MethodName)) ∈ TW := in_t4 96 (by decide +kernel) rfl
theorem tw_888 : (Jvm.Cond.code ({ cls := "FlumeOrders$Notches", name := "question", desc := "(LFlumeOrders$Things;I)V" } : Jvm.MethodName) prog_7_method_5_code (4 : Nat) (Option.none : Option Jvm.ClassFile.FieldType)) ∈ TW := in_t4 97 (by decide +kernel) rfl
theorem tw_889 : (Jvm.Cond.methodLink "FlumeOrders$Notches" (104 : Nat) ({ cls := "FlumeOrders$Notches", name := "allOf", desc := "(LFlumeOrders$Things;I)V" } : Jvm.MethodName)) ∈ TW := in_t4 98 (by decide +kernel) rfl
theorem tw_891 : (Jvm.Cond.instanceMethod ({ cls := "FlumeOrders$Notches", name := "allOf", desc := "(LFlumeOrders$Things;I)V" } : Jvm.MethodName)) ∈ TW := in_t4 100 (by decide +kernel) rfl
theorem tw_892 : (Jvm.Cond.code ({ cls := "FlumeOrders$Notches", name := "allOf", desc := "(LFlumeOrders$Things;I)V" } : Jvm.MethodName) prog_7_method_6_code (4 : Nat) (Option.none : Option Jvm.ClassFile.FieldType)) ∈ TW := in_t4 101 (by decide +kernel) rfl
theorem tw_893 : (Jvm.Cond.methodLink "FlumeOrders$Notches" (113 : Nat) ({ cls := "FlumeOrders$Notches", name := "atom", desc := "(LFlumeOrders$Things;I)V" } : Jvm.MethodName)) ∈ TW := in_t4 102 (by decide +kernel) rfl
theorem tw_895 : (Jvm.Cond.instanceMethod ({ cls := "FlumeOrders$Notches", name := "atom", desc := "(LFlumeOrders$Things;I)V" } : Jvm.MethodName)) ∈ TW := in_t4 104 (by decide +kernel) rfl
theorem tw_896 : (Jvm.Cond.code ({ cls := "FlumeOrders$Notches", name := "atom", desc := "(LFlumeOrders$Things;I)V" } : Jvm.MethodName) prog_7_method_7_code (5 : Nat) (Option.none : Option Jvm.ClassFile.FieldType)) ∈ TW := in_t4 105 (by decide +kernel) rfl
theorem tw_897 : (Jvm.Cond.fieldLink "FlumeOrders$Notches" (119 : Nat) "FlumeOrders$Word" "NOT" "LFlumeOrders$Word;") ∈ TW := in_t4 106 (by decide +kernel) rfl
theorem tw_899 : (Jvm.Cond.methodLink "FlumeOrders$Notches" (110 : Nat) ({ cls := "FlumeOrders$Notches", name := "addStep", desc := "(LFlumeOrders$Word;I)V" } : Jvm.MethodName)) ∈ TW := in_t4 108 (by decide +kernel) rfl
theorem tw_901 : (Jvm.Cond.instanceMethod ({ cls := "FlumeOrders$Notches", name := "addStep", desc := "(LFlumeOrders$Word;I)V" } : Jvm.MethodName)) ∈ TW := in_t4 110 (by decide +kernel) rfl
theorem tw_902 : (Jvm.Cond.code ({ cls := "FlumeOrders$Notches", name := "addStep", desc := "(LFlumeOrders$Word;I)V" } : Jvm.MethodName) prog_7_method_10_code (3 : Nat) (Option.none : Option Jvm.ClassFile.FieldType)) ∈ TW := in_t4 111 (by decide +kernel) rfl
theorem tw_903 : (Jvm.Cond.fieldLink "FlumeOrders$Notches" (122 : Nat) "FlumeOrders$Word" "OPEN" "LFlumeOrders$Word;") ∈ TW := in_t4 112 (by decide +kernel) rfl
theorem tw_905 : (Jvm.Cond.fieldLink "FlumeOrders$Notches" (125 : Nat) "FlumeOrders$Word" "CLOSE" "LFlumeOrders$Word;") ∈ TW := in_t4 114 (by decide +kernel) rfl
theorem tw_907 : (Jvm.Cond.fieldLink "FlumeOrders$Notches" (128 : Nat) "FlumeOrders$Word" "FROST" "LFlumeOrders$Word;") ∈ TW := in_t4 116 (by decide +kernel) rfl
theorem tw_908 : (Jvm.Cond.methodLink "FlumeOrders$Notches" (131 : Nat) ({ cls := "FlumeOrders$Notches", name := "sum", desc := "(LFlumeOrders$Things;)V" } : Jvm.MethodName)) ∈ TW := in_t4 117 (by decide +kernel) rfl
theorem tw_910 : (Jvm.Cond.instanceMethod ({ cls := "FlumeOrders$Notches", name := "sum", desc := "(LFlumeOrders$Things;)V" } : Jvm.MethodName)) ∈ TW := in_t4 119 (by decide +kernel) rfl
theorem tw_911 : (Jvm.Cond.code ({ cls := "FlumeOrders$Notches", name := "sum", desc := "(LFlumeOrders$Things;)V" } : Jvm.MethodName) prog_7_method_8_code (4 : Nat) (Option.none : Option Jvm.ClassFile.FieldType)) ∈ TW := in_t4 120 (by decide +kernel) rfl
theorem tw_912 : (Jvm.Cond.methodLink "FlumeOrders$Notches" (140 : Nat) ({ cls := "FlumeOrders$Things", name := "takePart", desc := "()LFlumeOrders$Word;" } : Jvm.MethodName)) ∈ TW := in_t4 121 (by decide +kernel) rfl
theorem tw_913 : (Jvm.Cond.instanceMethod ({ cls := "FlumeOrders$Things", name := "takePart", desc := "()LFlumeOrders$Word;" } : Jvm.MethodName)) ∈ TW := in_t4 122 (by decide +kernel) rfl
theorem tw_914 : (Jvm.Cond.selects "FlumeOrders$Things" ({ cls := "FlumeOrders$Things", name := "takePart", desc := "()LFlumeOrders$Word;" } : Jvm.MethodName) ({ cls := "FlumeOrders$Things", name := "takePart", desc := "()LFlumeOrders$Word;" } : Jvm.MethodName)) ∈ TW := in_t4 123 (by decide +kernel) rfl
theorem tw_915 : (Jvm.Cond.code ({ cls := "FlumeOrders$Things", name := "takePart", desc := "()LFlumeOrders$Word;" } : Jvm.MethodName) prog_12_method_14_code (1 : Nat) (Option.some (Jvm.ClassFile.FieldType.object "FlumeOrders$Word"))) ∈ TW := in_t4 124 (by decide +kernel) rfl
theorem tw_916 : (Jvm.Cond.fieldLink "FlumeOrders$Notches" (144 : Nat) "FlumeOrders$Word" "UNKNOWN" "LFlumeOrders$Word;") ∈ TW := in_t4 125 (by decide +kernel) rfl
theorem tw_917 : (Jvm.Cond.methodLink "FlumeOrders$Notches" (58 : Nat) ({ cls := "FlumeOrders$Things", name := "refuse", desc := "()V" } : Jvm.MethodName)) ∈ TW := in_t4 126 (by decide +kernel) rfl
theorem tw_918 : (Jvm.Cond.fieldLink "FlumeOrders$Notches" (150 : Nat) "FlumeOrders$Word" "PLUS" "LFlumeOrders$Word;") ∈ TW := in_t4 127 (by decide +kernel) rfl
theorem tw_920 : (Jvm.Cond.fieldLink "FlumeOrders$Notches" (134 : Nat) "FlumeOrders$Word" "LESS" "LFlumeOrders$Word;") ∈ TW := in_t4 129 (by decide +kernel) rfl
theorem tw_922 : (Jvm.Cond.fieldLink "FlumeOrders$Notches" (137 : Nat) "FlumeOrders$Word" "MORE" "LFlumeOrders$Word;") ∈ TW := in_t4 131 (by decide +kernel) rfl
theorem tw_924 : (Jvm.Cond.fieldLink "FlumeOrders$Notches" (116 : Nat) "FlumeOrders$Word" "AND" "LFlumeOrders$Word;") ∈ TW := in_t4 133 (by decide +kernel) rfl
theorem tw_926 : (Jvm.Cond.fieldLink "FlumeOrders$Notches" (107 : Nat) "FlumeOrders$Word" "OR" "LFlumeOrders$Word;") ∈ TW := in_t4 135 (by decide +kernel) rfl
theorem tw_928 : (Jvm.Cond.methodLink "FlumeOrders$Notches" (54 : Nat) ({ cls := "FlumeOrders$Things", name := "isAtEnd", desc := "()Z" } : Jvm.MethodName)) ∈ TW := in_t4 137 (by decide +kernel) rfl
theorem tw_929 : (Jvm.Cond.methodLink "FlumeOrders" (113 : Nat) ({ cls := "FlumeOrders$Forest", name := "throwChip", desc := "(IIII)I" } : Jvm.MethodName)) ∈ TW := in_t4 138 (by decide +kernel) rfl
theorem tw_930 : (Jvm.Cond.instanceMethod ({ cls := "FlumeOrders$Forest", name := "throwChip", desc := "(IIII)I" } : Jvm.MethodName)) ∈ TW := in_t4 139 (by decide +kernel) rfl
theorem tw_931 : (Jvm.Cond.selects "FlumeOrders$Forest" ({ cls := "FlumeOrders$Forest", name := "throwChip", desc := "(IIII)I" } : Jvm.MethodName) ({ cls := "FlumeOrders$Forest", name := "throwChip", desc := "(IIII)I" } : Jvm.MethodName)) ∈ TW := in_t4 140 (by decide +kernel) rfl
theorem tw_932 : (Jvm.Cond.code ({ cls := "FlumeOrders$Forest", name := "throwChip", desc := "(IIII)I" } : Jvm.MethodName) prog_6_method_10_code (6 : Nat) (Option.some Jvm.ClassFile.FieldType.int)) ∈ TW := in_t4 141 (by decide +kernel) rfl
theorem tw_933 : (Jvm.Cond.methodLink "FlumeOrdersLaw" (104 : Nat) ({ cls := "FlumeOrdersLaw", name := "run", desc := "(LFlumeOrders;I[J)I" } : Jvm.MethodName)) ∈ TW := in_t4 142 (by decide +kernel) rfl
theorem tw_934 : (Jvm.Cond.static ({ cls := "FlumeOrdersLaw", name := "run", desc := "(LFlumeOrders;I[J)I" } : Jvm.MethodName)) ∈ TW := in_t4 143 (by decide +kernel) rfl
theorem tw_935 : (Jvm.Cond.codeWith ({ cls := "FlumeOrdersLaw", name := "run", desc := "(LFlumeOrders;I[J)I" } : Jvm.MethodName) method_5_code (4 : Nat) (Option.some Jvm.ClassFile.FieldType.int) [((0 : Nat), (9 : Nat), (12 : Nat), (13 : Nat))]) ∈ TW := in_t4 144 (by decide +kernel) rfl
theorem tw_936 : (Jvm.Cond.methodLink "FlumeOrdersLaw" (23 : Nat) ({ cls := "FlumeOrders", name := "run", desc := "(I)I" } : Jvm.MethodName)) ∈ TW := in_t4 145 (by decide +kernel) rfl
theorem tw_937 : (Jvm.Cond.instanceMethod ({ cls := "FlumeOrders", name := "run", desc := "(I)I" } : Jvm.MethodName)) ∈ TW := in_t4 146 (by decide +kernel) rfl
theorem tw_938 : (Jvm.Cond.selects "FlumeOrders" ({ cls := "FlumeOrders", name := "run", desc := "(I)I" } : Jvm.MethodName) ({ cls := "FlumeOrders", name := "run", desc := "(I)I" } : Jvm.MethodName)) ∈ TW := in_t4 147 (by decide +kernel) rfl
theorem tw_939 : (Jvm.Cond.code ({ cls := "FlumeOrders", name := "run", desc := "(I)I" } : Jvm.MethodName) prog_1_method_7_code (3 : Nat) (Option.some Jvm.ClassFile.FieldType.int)) ∈ TW := in_t4 148 (by decide +kernel) rfl
theorem tw_940 : (Jvm.Cond.methodLink "FlumeOrders" (123 : Nat) ({ cls := "FlumeOrders$Flow", name := "pass", desc := "(LFlumeOrders$Forest;I)V" } : Jvm.MethodName)) ∈ TW := in_t4 149 (by decide +kernel) rfl
theorem tw_941 : (Jvm.Cond.instanceMethod ({ cls := "FlumeOrders$Flow", name := "pass", desc := "(LFlumeOrders$Forest;I)V" } : Jvm.MethodName)) ∈ TW := in_t4 150 (by decide +kernel) rfl
theorem tw_942 : (Jvm.Cond.selects "FlumeOrders$Flow" ({ cls := "FlumeOrders$Flow", name := "pass", desc := "(LFlumeOrders$Forest;I)V" } : Jvm.MethodName) ({ cls := "FlumeOrders$Flow", name := "pass", desc := "(LFlumeOrders$Forest;I)V" } : Jvm.MethodName)) ∈ TW := in_t4 151 (by decide +kernel) rfl
theorem tw_943 : (Jvm.Cond.code ({ cls := "FlumeOrders$Flow", name := "pass", desc := "(LFlumeOrders$Forest;I)V" } : Jvm.MethodName) prog_5_method_2_code (5 : Nat) (Option.none : Option Jvm.ClassFile.FieldType)) ∈ TW := in_t4 152 (by decide +kernel) rfl
theorem tw_944 : (Jvm.Cond.methodLink "FlumeOrders$Flow" (22 : Nat) ({ cls := "FlumeOrders$Forest", name := "hasFrost", desc := "()Z" } : Jvm.MethodName)) ∈ TW := in_t4 153 (by decide +kernel) rfl
theorem tw_945 : (Jvm.Cond.methodLink "FlumeOrders$Flow" (28 : Nat) ({ cls := "FlumeOrders$Flow", name := "minute", desc := "(LFlumeOrders$Forest;)V" } : Jvm.MethodName)) ∈ TW := in_t4 154 (by decide +kernel) rfl
theorem tw_947 : (Jvm.Cond.instanceMethod ({ cls := "FlumeOrders$Flow", name := "minute", desc := "(LFlumeOrders$Forest;)V" } : Jvm.MethodName)) ∈ TW := in_t4 156 (by decide +kernel) rfl
theorem tw_948 : (Jvm.Cond.code ({ cls := "FlumeOrders$Flow", name := "minute", desc := "(LFlumeOrders$Forest;)V" } : Jvm.MethodName) prog_5_method_3_code (4 : Nat) (Option.none : Option Jvm.ClassFile.FieldType)) ∈ TW := in_t4 157 (by decide +kernel) rfl
theorem tw_949 : (Jvm.Cond.methodLink "FlumeOrders$Flow" (52 : Nat) ({ cls := "FlumeOrders$Flow", name := "come", desc := "(LFlumeOrders$Forest;I)V" } : Jvm.MethodName)) ∈ TW := in_t4 158 (by decide +kernel) rfl
theorem tw_951 : (Jvm.Cond.instanceMethod ({ cls := "FlumeOrders$Flow", name := "come", desc := "(LFlumeOrders$Forest;I)V" } : Jvm.MethodName)) ∈ TW := in_t4 160 (by decide +kernel) rfl
theorem tw_952 : (Jvm.Cond.code ({ cls := "FlumeOrders$Flow", name := "come", desc := "(LFlumeOrders$Forest;I)V" } : Jvm.MethodName) prog_5_method_5_code (4 : Nat) (Option.none : Option Jvm.ClassFile.FieldType)) ∈ TW := in_t4 161 (by decide +kernel) rfl
theorem tw_953 : (Jvm.Cond.methodLink "FlumeOrders$Flow" (95 : Nat) ({ cls := "FlumeOrders$Flow", name := "doActs", desc := "(LFlumeOrders$Forest;I)V" } : Jvm.MethodName)) ∈ TW := in_t4 162 (by decide +kernel) rfl
theorem tw_955 : (Jvm.Cond.instanceMethod ({ cls := "FlumeOrders$Flow", name := "doActs", desc := "(LFlumeOrders$Forest;I)V" } : Jvm.MethodName)) ∈ TW := in_t4 164 (by decide +kernel) rfl
theorem tw_956 : (Jvm.Cond.code ({ cls := "FlumeOrders$Flow", name := "doActs", desc := "(LFlumeOrders$Forest;I)V" } : Jvm.MethodName) prog_5_method_6_code (8 : Nat) (Option.none : Option Jvm.ClassFile.FieldType)) ∈ TW := in_t4 165 (by decide +kernel) rfl
theorem tw_957 : (Jvm.Cond.methodLink "FlumeOrders$Flow" (111 : Nat) ({ cls := "FlumeOrders$Flow", name := "holds", desc := "(LFlumeOrders$Forest;LFlumeOrders$Chip;LFlumeOrders$Notches;I)Z" } : Jvm.MethodName)) ∈ TW := in_t4 166 (by decide +kernel) rfl
theorem tw_959 : (Jvm.Cond.instanceMethod ({ cls := "FlumeOrders$Flow", name := "holds", desc := "(LFlumeOrders$Forest;LFlumeOrders$Chip;LFlumeOrders$Notches;I)Z" } : Jvm.MethodName)) ∈ TW := in_t4 168 (by decide +kernel) rfl
theorem tw_960 : (Jvm.Cond.code ({ cls := "FlumeOrders$Flow", name := "holds", desc := "(LFlumeOrders$Forest;LFlumeOrders$Chip;LFlumeOrders$Notches;I)Z" } : Jvm.MethodName) prog_5_method_7_code (9 : Nat) (Option.some Jvm.ClassFile.FieldType.boolean)) ∈ TW := in_t4 169 (by decide +kernel) rfl
theorem tw_961 : (Jvm.Cond.methodLink "FlumeOrders$Flow" (155 : Nat) ({ cls := "FlumeOrders$Notches", name := "behindQuestion", desc := "(I)I" } : Jvm.MethodName)) ∈ TW := in_t4 170 (by decide +kernel) rfl
theorem tw_962 : (Jvm.Cond.instanceMethod ({ cls := "FlumeOrders$Notches", name := "behindQuestion", desc := "(I)I" } : Jvm.MethodName)) ∈ TW := in_t4 171 (by decide +kernel) rfl
theorem tw_963 : (Jvm.Cond.selects "FlumeOrders$Notches" ({ cls := "FlumeOrders$Notches", name := "behindQuestion", desc := "(I)I" } : Jvm.MethodName) ({ cls := "FlumeOrders$Notches", name := "behindQuestion", desc := "(I)I" } : Jvm.MethodName)) ∈ TW := in_t4 172 (by decide +kernel) rfl
theorem tw_964 : (Jvm.Cond.code ({ cls := "FlumeOrders$Notches", name := "behindQuestion", desc := "(I)I" } : Jvm.MethodName) prog_7_method_11_code (2 : Nat) (Option.some Jvm.ClassFile.FieldType.int)) ∈ TW := in_t4 173 (by decide +kernel) rfl
theorem tw_965 : (Jvm.Cond.fieldLink "FlumeOrders$Flow" (165 : Nat) "FlumeOrders$Word" "NOT" "LFlumeOrders$Word;") ∈ TW := in_t4 174 (by decide +kernel) rfl
theorem tw_966 : (Jvm.Cond.methodLink "FlumeOrders$Flow" (172 : Nat) ({ cls := "FlumeOrders$Flow", name := "join", desc := "(LFlumeOrders$Word;II)I" } : Jvm.MethodName)) ∈ TW := in_t4 175 (by decide +kernel) rfl
theorem tw_967 : (Jvm.Cond.static ({ cls := "FlumeOrders$Flow", name := "join", desc := "(LFlumeOrders$Word;II)I" } : Jvm.MethodName)) ∈ TW := in_t4 176 (by decide +kernel) rfl
theorem tw_968 : (Jvm.Cond.code ({ cls := "FlumeOrders$Flow", name := "join", desc := "(LFlumeOrders$Word;II)I" } : Jvm.MethodName) prog_5_method_9_code (3 : Nat) (Option.some Jvm.ClassFile.FieldType.int)) ∈ TW := in_t4 177 (by decide +kernel) rfl
theorem tw_969 : (Jvm.Cond.fieldLink "FlumeOrders$Flow" (186 : Nat) "FlumeOrders$1" "$SwitchMap$FlumeOrders$Word" "[I") ∈ TW := in_t4 178 (by decide +kernel) rfl
theorem tw_971 : (Jvm.Cond.methodLink "FlumeOrders$Flow" (191 : Nat) ({ cls := "FlumeOrders$Word", name := "ordinal", desc := "()I" } : Jvm.MethodName)) ∈ TW := in_t4 180 (by decide +kernel) rfl
theorem tw_972 : (Jvm.Cond.sameMethod "FlumeOrders$Word" "java/lang/Enum" "ordinal" "()I") ∈ TW := in_t4 181 (by decide +kernel) rfl
theorem tw_974 : (Jvm.Cond.selects "FlumeOrders$Word" ({ cls := "FlumeOrders$Word", name := "ordinal", desc := "()I" } : Jvm.MethodName) ({ cls := "java/lang/Enum", name := "ordinal", desc := "()I" } : Jvm.MethodName)) ∈ TW := in_t4 183 (by decide +kernel) rfl
theorem tw_975 : (Jvm.Cond.instanceMethod ({ cls := "java/lang/Enum", name := "ordinal", desc := "()I" } : Jvm.MethodName)) ∈ TW := in_t4 184 (by decide +kernel) rfl
theorem tw_976 : (Jvm.Cond.code ({ cls := "java/lang/Enum", name := "ordinal", desc := "()I" } : Jvm.MethodName) prog_19_method_2_code (1 : Nat) (Option.some Jvm.ClassFile.FieldType.int)) ∈ TW := in_t4 185 (by decide +kernel) rfl
theorem tw_977 : (Jvm.Cond.fieldLink "FlumeOrders$Flow" (176 : Nat) "FlumeOrders$Word" "NUMBER" "LFlumeOrders$Word;") ∈ TW := in_t4 186 (by decide +kernel) rfl
theorem tw_978 : (Jvm.Cond.methodLink "FlumeOrders$Flow" (182 : Nat) ({ cls := "FlumeOrders$Flow", name := "valueOf", desc := "(LFlumeOrders$Word;LFlumeOrders$Forest;LFlumeOrders$Chip;)I" } : Jvm.MethodName)) ∈ TW := in_t4 187 (by decide +kernel) rfl
theorem tw_979 : (Jvm.Cond.static ({ cls := "FlumeOrders$Flow", name := "valueOf", desc := "(LFlumeOrders$Word;LFlumeOrders$Forest;LFlumeOrders$Chip;)I" } : Jvm.MethodName)) ∈ TW := in_t4 188 (by decide +kernel) rfl
theorem tw_980 : (Jvm.Cond.code ({ cls := "FlumeOrders$Flow", name := "valueOf", desc := "(LFlumeOrders$Word;LFlumeOrders$Forest;LFlumeOrders$Chip;)I" } : Jvm.MethodName) prog_5_method_8_code (4 : Nat) (Option.some Jvm.ClassFile.FieldType.int)) ∈ TW := in_t4 189 (by decide +kernel) rfl
theorem tw_981 : (Jvm.Cond.methodLink "FlumeOrders$Flow" (204 : Nat) ({ cls := "FlumeOrders$Forest", name := "hour", desc := "()I" } : Jvm.MethodName)) ∈ TW := in_t4 190 (by decide +kernel) rfl
theorem tw_982 : (Jvm.Cond.methodLink "FlumeOrders$Flow" (210 : Nat) ({ cls := "FlumeOrders$Forest", name := "isFrostyAt", desc := "(I)Z" } : Jvm.MethodName)) ∈ TW := in_t4 191 (by decide +kernel) rfl
theorem tw_983 : (Jvm.Cond.fieldLink "FlumeOrders$Flow" (119 : Nat) "FlumeOrders$Word" "CUT" "LFlumeOrders$Word;") ∈ TW := in_t4 192 (by decide +kernel) rfl
theorem tw_984 : (Jvm.Cond.methodLink "FlumeOrders$Flow" (128 : Nat) ({ cls := "FlumeOrders$Camp", name := "cut", desc := "(I)V" } : Jvm.MethodName)) ∈ TW := in_t4 193 (by decide +kernel) rfl
theorem tw_985 : (Jvm.Cond.instanceMethod ({ cls := "FlumeOrders$Camp", name := "cut", desc := "(I)V" } : Jvm.MethodName)) ∈ TW := in_t4 194 (by decide +kernel) rfl
theorem tw_986 : (Jvm.Cond.selects "FlumeOrders$Camp" ({ cls := "FlumeOrders$Camp", name := "cut", desc := "(I)V" } : Jvm.MethodName) ({ cls := "FlumeOrders$Camp", name := "cut", desc := "(I)V" } : Jvm.MethodName)) ∈ TW := in_t4 195 (by decide +kernel) rfl
theorem tw_987 : (Jvm.Cond.code ({ cls := "FlumeOrders$Camp", name := "cut", desc := "(I)V" } : Jvm.MethodName) prog_3_method_3_code (3 : Nat) (Option.none : Option Jvm.ClassFile.FieldType)) ∈ TW := in_t4 196 (by decide +kernel) rfl
theorem tw_988 : (Jvm.Cond.methodLink "FlumeOrders$Camp" (29 : Nat) ({ cls := "java/lang/Math", name := "min", desc := "(II)I" } : Jvm.MethodName)) ∈ TW := in_t4 197 (by decide +kernel) rfl
theorem tw_989 : (Jvm.Cond.fieldLink "FlumeOrders$Flow" (132 : Nat) "FlumeOrders$Word" "SEND" "LFlumeOrders$Word;") ∈ TW := in_t4 198 (by decide +kernel) rfl
theorem tw_990 : (Jvm.Cond.methodLink "FlumeOrders$Flow" (135 : Nat) ({ cls := "FlumeOrders$Camp", name := "send", desc := "(I)V" } : Jvm.MethodName)) ∈ TW := in_t4 199 (by decide +kernel) rfl
theorem tw_991 : (Jvm.Cond.instanceMethod ({ cls := "FlumeOrders$Camp", name := "send", desc := "(I)V" } : Jvm.MethodName)) ∈ TW := in_t4 200 (by decide +kernel) rfl
theorem tw_992 : (Jvm.Cond.selects "FlumeOrders$Camp" ({ cls := "FlumeOrders$Camp", name := "send", desc := "(I)V" } : Jvm.MethodName) ({ cls := "FlumeOrders$Camp", name := "send", desc := "(I)V" } : Jvm.MethodName)) ∈ TW := in_t4 201 (by decide +kernel) rfl
theorem tw_993 : (Jvm.Cond.code ({ cls := "FlumeOrders$Camp", name := "send", desc := "(I)V" } : Jvm.MethodName) prog_3_method_4_code (3 : Nat) (Option.none : Option Jvm.ClassFile.FieldType)) ∈ TW := in_t4 202 (by decide +kernel) rfl
theorem tw_994 : (Jvm.Cond.fieldLink "FlumeOrders$Flow" (138 : Nat) "FlumeOrders$Word" "ANSWER" "LFlumeOrders$Word;") ∈ TW := in_t4 203 (by decide +kernel) rfl
theorem tw_995 : (Jvm.Cond.methodLink "FlumeOrders$Flow" (144 : Nat) ({ cls := "FlumeOrders$Forest", name := "throwChip", desc := "(IIII)I" } : Jvm.MethodName)) ∈ TW := in_t4 204 (by decide +kernel) rfl
theorem tw_996 : (Jvm.Cond.methodLink "FlumeOrders$Flow" (148 : Nat) ({ cls := "FlumeOrders$Camp", name := "annul", desc := "(II)V" } : Jvm.MethodName)) ∈ TW := in_t4 205 (by decide +kernel) rfl
theorem tw_997 : (Jvm.Cond.instanceMethod ({ cls := "FlumeOrders$Camp", name := "annul", desc := "(II)V" } : Jvm.MethodName)) ∈ TW := in_t4 206 (by decide +kernel) rfl
theorem tw_998 : (Jvm.Cond.selects "FlumeOrders$Camp" ({ cls := "FlumeOrders$Camp", name := "annul", desc := "(II)V" } : Jvm.MethodName) ({ cls := "FlumeOrders$Camp", name := "annul", desc := "(II)V" } : Jvm.MethodName)) ∈ TW := in_t4 207 (by decide +kernel) rfl
theorem tw_999 : (Jvm.Cond.code ({ cls := "FlumeOrders$Camp", name := "annul", desc := "(II)V" } : Jvm.MethodName) prog_3_method_5_code (5 : Nat) (Option.none : Option Jvm.ClassFile.FieldType)) ∈ TW := in_t4 208 (by decide +kernel) rfl
theorem tw_1000 : (Jvm.Cond.methodLink "FlumeOrders$Flow" (59 : Nat) ({ cls := "FlumeOrders$Flow", name := "enter", desc := "(LFlumeOrders$Forest;I)V" } : Jvm.MethodName)) ∈ TW := in_t4 209 (by decide +kernel) rfl
theorem tw_1002 : (Jvm.Cond.instanceMethod ({ cls := "FlumeOrders$Flow", name := "enter", desc := "(LFlumeOrders$Forest;I)V" } : Jvm.MethodName)) ∈ TW := in_t4 211 (by decide +kernel) rfl
theorem tw_1003 : (Jvm.Cond.code ({ cls := "FlumeOrders$Flow", name := "enter", desc := "(LFlumeOrders$Forest;I)V" } : Jvm.MethodName) prog_5_method_10_code (7 : Nat) (Option.none : Option Jvm.ClassFile.FieldType)) ∈ TW := in_t4 212 (by decide +kernel) rfl
theorem tw_1004 : (Jvm.Cond.methodLink "FlumeOrders$Flow" (214 : Nat) ({ cls := "FlumeOrders$Flow", name := "firstWaiting", desc := "(LFlumeOrders$Forest;I)I" } : Jvm.MethodName)) ∈ TW := in_t4 213 (by decide +kernel) rfl
theorem tw_1005 : (Jvm.Cond.static ({ cls := "FlumeOrders$Flow", name := "firstWaiting", desc := "(LFlumeOrders$Forest;I)I" } : Jvm.MethodName)) ∈ TW := in_t4 214 (by decide +kernel) rfl
theorem tw_1006 : (Jvm.Cond.code ({ cls := "FlumeOrders$Flow", name := "firstWaiting", desc := "(LFlumeOrders$Forest;I)I" } : Jvm.MethodName) prog_5_method_11_code (5 : Nat) (Option.some Jvm.ClassFile.FieldType.int)) ∈ TW := in_t4 215 (by decide +kernel) rfl
theorem tw_1007 : (Jvm.Cond.methodLink "FlumeOrders$Flow" (217 : Nat) ({ cls := "FlumeOrders$Reach", name := "hasRoom", desc := "()Z" } : Jvm.MethodName)) ∈ TW := in_t4 216 (by decide +kernel) rfl
theorem tw_1008 : (Jvm.Cond.instanceMethod ({ cls := "FlumeOrders$Reach", name := "hasRoom", desc := "()Z" } : Jvm.MethodName)) ∈ TW := in_t4 217 (by decide +kernel) rfl
theorem tw_1009 : (Jvm.Cond.selects "FlumeOrders$Reach" ({ cls := "FlumeOrders$Reach", name := "hasRoom", desc := "()Z" } : Jvm.MethodName) ({ cls := "FlumeOrders$Reach", name := "hasRoom", desc := "()Z" } : Jvm.MethodName)) ∈ TW := in_t4 218 (by decide +kernel) rfl
theorem tw_1010 : (Jvm.Cond.code ({ cls := "FlumeOrders$Reach", name := "hasRoom", desc := "()Z" } : Jvm.MethodName) prog_9_method_2_code (1 : Nat) (Option.some Jvm.ClassFile.FieldType.boolean)) ∈ TW := in_t4 219 (by decide +kernel) rfl
theorem tw_1011 : (Jvm.Cond.methodLink "FlumeOrders$Flow" (223 : Nat) ({ cls := "FlumeOrders$Flow", name := "drawBelow", desc := "(LFlumeOrders$Forest;I)Z" } : Jvm.MethodName)) ∈ TW := in_t4 220 (by decide +kernel) rfl
theorem tw_1012 : (Jvm.Cond.static ({ cls := "FlumeOrders$Flow", name := "drawBelow", desc := "(LFlumeOrders$Forest;I)Z" } : Jvm.MethodName)) ∈ TW := in_t4 221 (by decide +kernel) rfl
theorem tw_1013 : (Jvm.Cond.code ({ cls := "FlumeOrders$Flow", name := "drawBelow", desc := "(LFlumeOrders$Forest;I)Z" } : Jvm.MethodName) prog_5_method_12_code (2 : Nat) (Option.some Jvm.ClassFile.FieldType.boolean)) ∈ TW := in_t4 222 (by decide +kernel) rfl
theorem tw_1014 : (Jvm.Cond.constant "FlumeOrders$Flow" (234 : Nat) (1103515245 : Int32)) ∈ TW := in_t4 223 (by decide +kernel) rfl
theorem tw_1016 : (Jvm.Cond.static ({ cls := "FlumeOrders", name := "minutesFor", desc := "(III)I" } : Jvm.MethodName)) ∈ TW := in_t4 225 (by decide +kernel) rfl
theorem tw_1017 : (Jvm.Cond.code ({ cls := "FlumeOrders", name := "minutesFor", desc := "(III)I" } : Jvm.MethodName) prog_1_method_34_code (3 : Nat) (Option.some Jvm.ClassFile.FieldType.int)) ∈ TW := in_t4 226 (by decide +kernel) rfl
theorem tw_1018 : (Jvm.Cond.methodLink "FlumeOrders$Flow" (32 : Nat) ({ cls := "FlumeOrders$Flow", name := "passStill", desc := "(LFlumeOrders$Forest;I)I" } : Jvm.MethodName)) ∈ TW := in_t4 227 (by decide +kernel) rfl
theorem tw_1020 : (Jvm.Cond.instanceMethod ({ cls := "FlumeOrders$Flow", name := "passStill", desc := "(LFlumeOrders$Forest;I)I" } : Jvm.MethodName)) ∈ TW := in_t4 229 (by decide +kernel) rfl
theorem tw_1021 : (Jvm.Cond.code ({ cls := "FlumeOrders$Flow", name := "passStill", desc := "(LFlumeOrders$Forest;I)I" } : Jvm.MethodName) prog_5_method_4_code (5 : Nat) (Option.some Jvm.ClassFile.FieldType.int)) ∈ TW := in_t4 230 (by decide +kernel) rfl
theorem tw_1022 : (Jvm.Cond.methodLink "FlumeOrders$Flow" (65 : Nat) ({ cls := "java/lang/Math", name := "min", desc := "(II)I" } : Jvm.MethodName)) ∈ TW := in_t4 231 (by decide +kernel) rfl
theorem tw_1023 : (Jvm.Cond.methodLink "FlumeOrdersLaw" (108 : Nat) ({ cls := "FlumeOrdersLaw", name := "pole", desc := "(LFlumeOrders;I[J)I" } : Jvm.MethodName)) ∈ TW := in_t4 232 (by decide +kernel) rfl
theorem tw_1024 : (Jvm.Cond.static ({ cls := "FlumeOrdersLaw", name := "pole", desc := "(LFlumeOrders;I[J)I" } : Jvm.MethodName)) ∈ TW := in_t4 233 (by decide +kernel) rfl
theorem tw_1025 : (Jvm.Cond.codeWith ({ cls := "FlumeOrdersLaw", name := "pole", desc := "(LFlumeOrders;I[J)I" } : Jvm.MethodName) method_6_code (4 : Nat) (Option.some Jvm.ClassFile.FieldType.int) [((0 : Nat), (9 : Nat), (12 : Nat), (21 : Nat))]) ∈ TW := in_t4 234 (by decide +kernel) rfl
theorem tw_1026 : (Jvm.Cond.methodLink "FlumeOrdersLaw" (27 : Nat) ({ cls := "FlumeOrders", name := "pole", desc := "(I)I" } : Jvm.MethodName)) ∈ TW := in_t4 235 (by decide +kernel) rfl
theorem tw_1027 : (Jvm.Cond.instanceMethod ({ cls := "FlumeOrders", name := "pole", desc := "(I)I" } : Jvm.MethodName)) ∈ TW := in_t4 236 (by decide +kernel) rfl
theorem tw_1028 : (Jvm.Cond.selects "FlumeOrders" ({ cls := "FlumeOrders", name := "pole", desc := "(I)I" } : Jvm.MethodName) ({ cls := "FlumeOrders", name := "pole", desc := "(I)I" } : Jvm.MethodName)) ∈ TW := in_t4 237 (by decide +kernel) rfl
theorem tw_1029 : (Jvm.Cond.code ({ cls := "FlumeOrders", name := "pole", desc := "(I)I" } : Jvm.MethodName) prog_1_method_8_code (2 : Nat) (Option.some Jvm.ClassFile.FieldType.int)) ∈ TW := in_t4 238 (by decide +kernel) rfl
theorem tw_1030 : (Jvm.Cond.methodLink "FlumeOrders" (127 : Nat) ({ cls := "FlumeOrders", name := "demandReach", desc := "(I)V" } : Jvm.MethodName)) ∈ TW := in_t4 239 (by decide +kernel) rfl
theorem tw_1032 : (Jvm.Cond.instanceMethod ({ cls := "FlumeOrders", name := "demandReach", desc := "(I)V" } : Jvm.MethodName)) ∈ TW := in_t5 1 (by decide +kernel) rfl
theorem tw_1033 : (Jvm.Cond.code ({ cls := "FlumeOrders", name := "demandReach", desc := "(I)V" } : Jvm.MethodName) prog_1_method_28_code (2 : Nat) (Option.none : Option Jvm.ClassFile.FieldType)) ∈ TW := in_t5 2 (by decide +kernel) rfl
theorem tw_1034 : (Jvm.Cond.methodLink "FlumeOrders" (130 : Nat) ({ cls := "FlumeOrders$Forest", name := "free", desc := "(I)I" } : Jvm.MethodName)) ∈ TW := in_t5 3 (by decide +kernel) rfl
theorem tw_1035 : (Jvm.Cond.instanceMethod ({ cls := "FlumeOrders$Forest", name := "free", desc := "(I)I" } : Jvm.MethodName)) ∈ TW := in_t5 4 (by decide +kernel) rfl
theorem tw_1036 : (Jvm.Cond.selects "FlumeOrders$Forest" ({ cls := "FlumeOrders$Forest", name := "free", desc := "(I)I" } : Jvm.MethodName) ({ cls := "FlumeOrders$Forest", name := "free", desc := "(I)I" } : Jvm.MethodName)) ∈ TW := in_t5 5 (by decide +kernel) rfl
theorem tw_1037 : (Jvm.Cond.code ({ cls := "FlumeOrders$Forest", name := "free", desc := "(I)I" } : Jvm.MethodName) prog_6_method_11_code (4 : Nat) (Option.some Jvm.ClassFile.FieldType.int)) ∈ TW := in_t5 6 (by decide +kernel) rfl
theorem tw_1038 : (Jvm.Cond.methodLink "FlumeOrdersLaw" (111 : Nat) ({ cls := "FlumeOrdersLaw", name := "water", desc := "(LFlumeOrders;I[J)I" } : Jvm.MethodName)) ∈ TW := in_t5 7 (by decide +kernel) rfl
theorem tw_1039 : (Jvm.Cond.static ({ cls := "FlumeOrdersLaw", name := "water", desc := "(LFlumeOrders;I[J)I" } : Jvm.MethodName)) ∈ TW := in_t5 8 (by decide +kernel) rfl
theorem tw_1040 : (Jvm.Cond.codeWith ({ cls := "FlumeOrdersLaw", name := "water", desc := "(LFlumeOrders;I[J)I" } : Jvm.MethodName) method_7_code (4 : Nat) (Option.some Jvm.ClassFile.FieldType.int) [((0 : Nat), (9 : Nat), (12 : Nat), (13 : Nat))]) ∈ TW := in_t5 9 (by decide +kernel) rfl
theorem tw_1041 : (Jvm.Cond.methodLink "FlumeOrdersLaw" (30 : Nat) ({ cls := "FlumeOrders", name := "water", desc := "(I)I" } : Jvm.MethodName)) ∈ TW := in_t5 10 (by decide +kernel) rfl
theorem tw_1042 : (Jvm.Cond.instanceMethod ({ cls := "FlumeOrders", name := "water", desc := "(I)I" } : Jvm.MethodName)) ∈ TW := in_t5 11 (by decide +kernel) rfl
theorem tw_1043 : (Jvm.Cond.selects "FlumeOrders" ({ cls := "FlumeOrders", name := "water", desc := "(I)I" } : Jvm.MethodName) ({ cls := "FlumeOrders", name := "water", desc := "(I)I" } : Jvm.MethodName)) ∈ TW := in_t5 12 (by decide +kernel) rfl
theorem tw_1044 : (Jvm.Cond.code ({ cls := "FlumeOrders", name := "water", desc := "(I)I" } : Jvm.MethodName) prog_1_method_9_code (3 : Nat) (Option.some Jvm.ClassFile.FieldType.int)) ∈ TW := in_t5 13 (by decide +kernel) rfl
theorem tw_1045 : (Jvm.Cond.methodLink "FlumeOrders" (134 : Nat) ({ cls := "FlumeOrders", name := "demandWater", desc := "(I)V" } : Jvm.MethodName)) ∈ TW := in_t5 14 (by decide +kernel) rfl
theorem tw_1046 : (Jvm.Cond.static ({ cls := "FlumeOrders", name := "demandWater", desc := "(I)V" } : Jvm.MethodName)) ∈ TW := in_t5 15 (by decide +kernel) rfl
theorem tw_1047 : (Jvm.Cond.code ({ cls := "FlumeOrders", name := "demandWater", desc := "(I)V" } : Jvm.MethodName) prog_1_method_33_code (1 : Nat) (Option.none : Option Jvm.ClassFile.FieldType)) ∈ TW := in_t5 16 (by decide +kernel) rfl
theorem tw_1048 : (Jvm.Cond.methodLink "FlumeOrdersLaw" (114 : Nat) ({ cls := "FlumeOrdersLaw", name := "look", desc := "(LFlumeOrders;II[J)I" } : Jvm.MethodName)) ∈ TW := in_t5 17 (by decide +kernel) rfl
theorem tw_1049 : (Jvm.Cond.static ({ cls := "FlumeOrdersLaw", name := "look", desc := "(LFlumeOrders;II[J)I" } : Jvm.MethodName)) ∈ TW := in_t5 18 (by decide +kernel) rfl
theorem tw_1050 : (Jvm.Cond.codeWith ({ cls := "FlumeOrdersLaw", name := "look", desc := "(LFlumeOrders;II[J)I" } : Jvm.MethodName) method_8_code (5 : Nat) (Option.some Jvm.ClassFile.FieldType.int) [((0 : Nat), (10 : Nat), (13 : Nat), (21 : Nat)), ((0 : Nat), (10 : Nat), (17 : Nat), (36 : Nat))]) ∈ TW := in_t5 19 (by decide +kernel) rfl
theorem tw_1051 : (Jvm.Cond.classLink "FlumeOrdersLaw" (36 : Nat) "java/util/NoSuchElementException") ∈ TW := in_t5 20 (by decide +kernel) rfl
theorem tw_1052 : (Jvm.Cond.methodLink "FlumeOrdersLaw" (33 : Nat) ({ cls := "FlumeOrders", name := "look", desc := "(II)I" } : Jvm.MethodName)) ∈ TW := in_t5 21 (by decide +kernel) rfl
theorem tw_1053 : (Jvm.Cond.instanceMethod ({ cls := "FlumeOrders", name := "look", desc := "(II)I" } : Jvm.MethodName)) ∈ TW := in_t5 22 (by decide +kernel) rfl
theorem tw_1054 : (Jvm.Cond.selects "FlumeOrders" ({ cls := "FlumeOrders", name := "look", desc := "(II)I" } : Jvm.MethodName) ({ cls := "FlumeOrders", name := "look", desc := "(II)I" } : Jvm.MethodName)) ∈ TW := in_t5 23 (by decide +kernel) rfl
theorem tw_1055 : (Jvm.Cond.code ({ cls := "FlumeOrders", name := "look", desc := "(II)I" } : Jvm.MethodName) prog_1_method_10_code (4 : Nat) (Option.some Jvm.ClassFile.FieldType.int)) ∈ TW := in_t5 24 (by decide +kernel) rfl
theorem tw_1056 : (Jvm.Cond.classLink "FlumeOrders" (164 : Nat) "java/util/NoSuchElementException") ∈ TW := in_t5 25 (by decide +kernel) rfl
theorem tw_1057 : (Jvm.Cond.instantiable "java/util/NoSuchElementException" (6 : Nat)) ∈ TW := in_t5 26 (by decide +kernel) rfl
theorem tw_1059 : (Jvm.Cond.selects "java/util/NoSuchElementException" ({ cls := "java/lang/Throwable", name := "fillInStackTrace", desc := "(I)Ljava/lang/Throwable;" } : Jvm.MethodName) ({ cls := "java/lang/Throwable", name := "fillInStackTrace", desc := "(I)Ljava/lang/Throwable;" } : Jvm.MethodName)) ∈ TW := in_t5 28 (by decide +kernel) rfl
theorem tw_1060 : (Jvm.Cond.lays "java/util/NoSuchElementException" "java/lang/Throwable" "cause" "Ljava/lang/Throwable;") ∈ TW := in_t5 29 (by decide +kernel) rfl
theorem tw_1061 : (Jvm.Cond.lays "java/util/NoSuchElementException" "java/lang/Throwable" "stackTrace" "[Ljava/lang/StackTraceElement;") ∈ TW := in_t5 30 (by decide +kernel) rfl
theorem tw_1062 : (Jvm.Cond.lays "java/util/NoSuchElementException" "java/lang/Throwable" "suppressedExceptions" "Ljava/util/List;") ∈ TW := in_t5 31 (by decide +kernel) rfl
theorem tw_1063 : (Jvm.Cond.lays "java/util/NoSuchElementException" "java/lang/Throwable" "detailMessage" "Ljava/lang/String;") ∈ TW := in_t5 32 (by decide +kernel) rfl
theorem tw_1064 : (Jvm.Cond.lays "java/util/NoSuchElementException" "java/lang/Throwable" "backtrace" "Ljava/lang/Object;") ∈ TW := in_t5 33 (by decide +kernel) rfl
theorem tw_1065 : (Jvm.Cond.methodLink "FlumeOrders" (166 : Nat) ({ cls := "java/util/NoSuchElementException", name := "<init>", desc := "()V" } : Jvm.MethodName)) ∈ TW := in_t5 34 (by decide +kernel) rfl
theorem tw_1066 : (Jvm.Cond.instanceMethod ({ cls := "java/util/NoSuchElementException", name := "<init>", desc := "()V" } : Jvm.MethodName)) ∈ TW := in_t5 35 (by decide +kernel) rfl
theorem tw_1067 : (Jvm.Cond.code ({ cls := "java/util/NoSuchElementException", name := "<init>", desc := "()V" } : Jvm.MethodName) prog_34_method_1_code (1 : Nat) (Option.none : Option Jvm.ClassFile.FieldType)) ∈ TW := in_t5 36 (by decide +kernel) rfl
theorem tw_1068 : (Jvm.Cond.methodLink "java/util/NoSuchElementException" (1 : Nat) ({ cls := "java/lang/RuntimeException", name := "<init>", desc := "()V" } : Jvm.MethodName)) ∈ TW := in_t5 37 (by decide +kernel) rfl
theorem tw_1069 : (Jvm.Cond.lays "java/util/NoSuchElementException" "java/lang/Throwable" "depth" "I") ∈ TW := in_t5 38 (by decide +kernel) rfl
theorem tw_1071 : (Jvm.Cond.methodLink "FlumeOrdersLaw" (117 : Nat) ({ cls := "FlumeOrdersLaw", name := "camp", desc := "(LFlumeOrders;II[J)I" } : Jvm.MethodName)) ∈ TW := in_t5 40 (by decide +kernel) rfl
theorem tw_1072 : (Jvm.Cond.static ({ cls := "FlumeOrdersLaw", name := "camp", desc := "(LFlumeOrders;II[J)I" } : Jvm.MethodName)) ∈ TW := in_t5 41 (by decide +kernel) rfl
theorem tw_1073 : (Jvm.Cond.codeWith ({ cls := "FlumeOrdersLaw", name := "camp", desc := "(LFlumeOrders;II[J)I" } : Jvm.MethodName) method_9_code (5 : Nat) (Option.some Jvm.ClassFile.FieldType.int) [((0 : Nat), (10 : Nat), (13 : Nat), (21 : Nat)), ((0 : Nat), (10 : Nat), (17 : Nat), (36 : Nat))]) ∈ TW := in_t5 42 (by decide +kernel) rfl
theorem tw_1074 : (Jvm.Cond.methodLink "FlumeOrdersLaw" (38 : Nat) ({ cls := "FlumeOrders", name := "camp", desc := "(II)I" } : Jvm.MethodName)) ∈ TW := in_t5 43 (by decide +kernel) rfl
theorem tw_1075 : (Jvm.Cond.instanceMethod ({ cls := "FlumeOrders", name := "camp", desc := "(II)I" } : Jvm.MethodName)) ∈ TW := in_t5 44 (by decide +kernel) rfl
theorem tw_1076 : (Jvm.Cond.selects "FlumeOrders" ({ cls := "FlumeOrders", name := "camp", desc := "(II)I" } : Jvm.MethodName) ({ cls := "FlumeOrders", name := "camp", desc := "(II)I" } : Jvm.MethodName)) ∈ TW := in_t5 45 (by decide +kernel) rfl
theorem tw_1077 : (Jvm.Cond.code ({ cls := "FlumeOrders", name := "camp", desc := "(II)I" } : Jvm.MethodName) prog_1_method_11_code (4 : Nat) (Option.some Jvm.ClassFile.FieldType.int)) ∈ TW := in_t5 46 (by decide +kernel) rfl
theorem tw_1078 : (Jvm.Cond.methodLink "FlumeOrders" (167 : Nat) ({ cls := "FlumeOrders", name := "demandCamp", desc := "(I)V" } : Jvm.MethodName)) ∈ TW := in_t5 47 (by decide +kernel) rfl
theorem tw_1080 : (Jvm.Cond.instanceMethod ({ cls := "FlumeOrders", name := "demandCamp", desc := "(I)V" } : Jvm.MethodName)) ∈ TW := in_t5 49 (by decide +kernel) rfl
theorem tw_1081 : (Jvm.Cond.code ({ cls := "FlumeOrders", name := "demandCamp", desc := "(I)V" } : Jvm.MethodName) prog_1_method_29_code (2 : Nat) (Option.none : Option Jvm.ClassFile.FieldType)) ∈ TW := in_t5 50 (by decide +kernel) rfl
theorem tw_1082 : (Jvm.Cond.methodLink "FlumeOrdersLaw" (120 : Nat) ({ cls := "FlumeOrdersLaw", name := "reach", desc := "(LFlumeOrders;II[J)I" } : Jvm.MethodName)) ∈ TW := in_t5 51 (by decide +kernel) rfl
theorem tw_1083 : (Jvm.Cond.static ({ cls := "FlumeOrdersLaw", name := "reach", desc := "(LFlumeOrders;II[J)I" } : Jvm.MethodName)) ∈ TW := in_t5 52 (by decide +kernel) rfl
theorem tw_1084 : (Jvm.Cond.codeWith ({ cls := "FlumeOrdersLaw", name := "reach", desc := "(LFlumeOrders;II[J)I" } : Jvm.MethodName) method_10_code (5 : Nat) (Option.some Jvm.ClassFile.FieldType.int) [((0 : Nat), (10 : Nat), (13 : Nat), (21 : Nat)), ((0 : Nat), (10 : Nat), (17 : Nat), (36 : Nat))]) ∈ TW := in_t5 53 (by decide +kernel) rfl
theorem tw_1085 : (Jvm.Cond.methodLink "FlumeOrdersLaw" (41 : Nat) ({ cls := "FlumeOrders", name := "reach", desc := "(II)I" } : Jvm.MethodName)) ∈ TW := in_t5 54 (by decide +kernel) rfl
theorem tw_1086 : (Jvm.Cond.instanceMethod ({ cls := "FlumeOrders", name := "reach", desc := "(II)I" } : Jvm.MethodName)) ∈ TW := in_t5 55 (by decide +kernel) rfl
theorem tw_1087 : (Jvm.Cond.selects "FlumeOrders" ({ cls := "FlumeOrders", name := "reach", desc := "(II)I" } : Jvm.MethodName) ({ cls := "FlumeOrders", name := "reach", desc := "(II)I" } : Jvm.MethodName)) ∈ TW := in_t5 56 (by decide +kernel) rfl
theorem tw_1088 : (Jvm.Cond.code ({ cls := "FlumeOrders", name := "reach", desc := "(II)I" } : Jvm.MethodName) prog_1_method_12_code (4 : Nat) (Option.some Jvm.ClassFile.FieldType.int)) ∈ TW := in_t5 57 (by decide +kernel) rfl
theorem tw_1089 : (Jvm.Cond.methodLink "FlumeOrdersLaw" (127 : Nat) ({ cls := "FlumeOrdersLaw", name := "time", desc := "(LFlumeOrders;IIII[J)I" } : Jvm.MethodName)) ∈ TW := in_t5 58 (by decide +kernel) rfl
theorem tw_1090 : (Jvm.Cond.static ({ cls := "FlumeOrdersLaw", name := "time", desc := "(LFlumeOrders;IIII[J)I" } : Jvm.MethodName)) ∈ TW := in_t5 59 (by decide +kernel) rfl
theorem tw_1091 : (Jvm.Cond.codeWith ({ cls := "FlumeOrdersLaw", name := "time", desc := "(LFlumeOrders;IIII[J)I" } : Jvm.MethodName) method_11_code (7 : Nat) (Option.some Jvm.ClassFile.FieldType.int) [((0 : Nat), (14 : Nat), (17 : Nat), (21 : Nat)), ((0 : Nat), (14 : Nat), (21 : Nat), (13 : Nat))]) ∈ TW := in_t5 60 (by decide +kernel) rfl
theorem tw_1092 : (Jvm.Cond.methodLink "FlumeOrdersLaw" (44 : Nat) ({ cls := "FlumeOrders", name := "time", desc := "(IIII)I" } : Jvm.MethodName)) ∈ TW := in_t5 61 (by decide +kernel) rfl
theorem tw_1093 : (Jvm.Cond.instanceMethod ({ cls := "FlumeOrders", name := "time", desc := "(IIII)I" } : Jvm.MethodName)) ∈ TW := in_t5 62 (by decide +kernel) rfl
theorem tw_1094 : (Jvm.Cond.selects "FlumeOrders" ({ cls := "FlumeOrders", name := "time", desc := "(IIII)I" } : Jvm.MethodName) ({ cls := "FlumeOrders", name := "time", desc := "(IIII)I" } : Jvm.MethodName)) ∈ TW := in_t5 63 (by decide +kernel) rfl
theorem tw_1095 : (Jvm.Cond.code ({ cls := "FlumeOrders", name := "time", desc := "(IIII)I" } : Jvm.MethodName) prog_1_method_14_code (5 : Nat) (Option.some Jvm.ClassFile.FieldType.int)) ∈ TW := in_t5 64 (by decide +kernel) rfl
theorem tw_1096 : (Jvm.Cond.methodLink "FlumeOrders" (209 : Nat) ({ cls := "FlumeOrders", name := "demandWay", desc := "(II)V" } : Jvm.MethodName)) ∈ TW := in_t5 65 (by decide +kernel) rfl
theorem tw_1098 : (Jvm.Cond.instanceMethod ({ cls := "FlumeOrders", name := "demandWay", desc := "(II)V" } : Jvm.MethodName)) ∈ TW := in_t5 67 (by decide +kernel) rfl
theorem tw_1099 : (Jvm.Cond.code ({ cls := "FlumeOrders", name := "demandWay", desc := "(II)V" } : Jvm.MethodName) prog_1_method_31_code (3 : Nat) (Option.none : Option Jvm.ClassFile.FieldType)) ∈ TW := in_t5 68 (by decide +kernel) rfl
theorem tw_1100 : (Jvm.Cond.methodLink "FlumeOrders" (221 : Nat) ({ cls := "FlumeOrders", name := "demandStation", desc := "(I)V" } : Jvm.MethodName)) ∈ TW := in_t5 69 (by decide +kernel) rfl
theorem tw_1102 : (Jvm.Cond.instanceMethod ({ cls := "FlumeOrders", name := "demandStation", desc := "(I)V" } : Jvm.MethodName)) ∈ TW := in_t5 71 (by decide +kernel) rfl
theorem tw_1103 : (Jvm.Cond.code ({ cls := "FlumeOrders", name := "demandStation", desc := "(I)V" } : Jvm.MethodName) prog_1_method_27_code (2 : Nat) (Option.none : Option Jvm.ClassFile.FieldType)) ∈ TW := in_t5 72 (by decide +kernel) rfl
theorem tw_1104 : (Jvm.Cond.methodLink "FlumeOrders" (213 : Nat) ({ cls := "FlumeOrders$Forest", name := "lengthBetween", desc := "(II)I" } : Jvm.MethodName)) ∈ TW := in_t5 73 (by decide +kernel) rfl
theorem tw_1105 : (Jvm.Cond.instanceMethod ({ cls := "FlumeOrders$Forest", name := "lengthBetween", desc := "(II)I" } : Jvm.MethodName)) ∈ TW := in_t5 74 (by decide +kernel) rfl
theorem tw_1106 : (Jvm.Cond.selects "FlumeOrders$Forest" ({ cls := "FlumeOrders$Forest", name := "lengthBetween", desc := "(II)I" } : Jvm.MethodName) ({ cls := "FlumeOrders$Forest", name := "lengthBetween", desc := "(II)I" } : Jvm.MethodName)) ∈ TW := in_t5 75 (by decide +kernel) rfl
theorem tw_1107 : (Jvm.Cond.code ({ cls := "FlumeOrders$Forest", name := "lengthBetween", desc := "(II)I" } : Jvm.MethodName) prog_6_method_15_code (5 : Nat) (Option.some Jvm.ClassFile.FieldType.int)) ∈ TW := in_t5 76 (by decide +kernel) rfl
theorem tw_1108 : (Jvm.Cond.methodLink "FlumeOrders$Forest" (197 : Nat) ({ cls := "java/lang/Math", name := "max", desc := "(II)I" } : Jvm.MethodName)) ∈ TW := in_t5 77 (by decide +kernel) rfl
theorem tw_1109 : (Jvm.Cond.methodLink "FlumeOrders" (217 : Nat) ({ cls := "FlumeOrders", name := "minutesFor", desc := "(III)I" } : Jvm.MethodName)) ∈ TW := in_t5 78 (by decide +kernel) rfl
theorem tw_1110 : (Jvm.Cond.methodLink "FlumeOrdersLaw" (131 : Nat) ({ cls := "FlumeOrdersLaw", name := "waits", desc := "(LFlumeOrders;IIIII[J)I" } : Jvm.MethodName)) ∈ TW := in_t5 79 (by decide +kernel) rfl
theorem tw_1111 : (Jvm.Cond.static ({ cls := "FlumeOrdersLaw", name := "waits", desc := "(LFlumeOrders;IIIII[J)I" } : Jvm.MethodName)) ∈ TW := in_t5 80 (by decide +kernel) rfl
theorem tw_1112 : (Jvm.Cond.codeWith ({ cls := "FlumeOrdersLaw", name := "waits", desc := "(LFlumeOrders;IIIII[J)I" } : Jvm.MethodName) method_12_code (8 : Nat) (Option.some Jvm.ClassFile.FieldType.int) [((0 : Nat), (16 : Nat), (19 : Nat), (21 : Nat)), ((0 : Nat), (16 : Nat), (23 : Nat), (13 : Nat))]) ∈ TW := in_t5 81 (by decide +kernel) rfl
theorem tw_1113 : (Jvm.Cond.methodLink "FlumeOrdersLaw" (48 : Nat) ({ cls := "FlumeOrders", name := "waits", desc := "(IIIII)I" } : Jvm.MethodName)) ∈ TW := in_t5 82 (by decide +kernel) rfl
theorem tw_1114 : (Jvm.Cond.instanceMethod ({ cls := "FlumeOrders", name := "waits", desc := "(IIIII)I" } : Jvm.MethodName)) ∈ TW := in_t5 83 (by decide +kernel) rfl
theorem tw_1115 : (Jvm.Cond.selects "FlumeOrders" ({ cls := "FlumeOrders", name := "waits", desc := "(IIIII)I" } : Jvm.MethodName) ({ cls := "FlumeOrders", name := "waits", desc := "(IIIII)I" } : Jvm.MethodName)) ∈ TW := in_t5 84 (by decide +kernel) rfl
theorem tw_1116 : (Jvm.Cond.code ({ cls := "FlumeOrders", name := "waits", desc := "(IIIII)I" } : Jvm.MethodName) prog_1_method_15_code (10 : Nat) (Option.some Jvm.ClassFile.FieldType.int)) ∈ TW := in_t5 85 (by decide +kernel) rfl
theorem tw_1117 : (Jvm.Cond.methodLink "FlumeOrdersLaw" (135 : Nat) ({ cls := "FlumeOrdersLaw", name := "order", desc := "(LFlumeOrders;II[J)I" } : Jvm.MethodName)) ∈ TW := in_t5 86 (by decide +kernel) rfl
theorem tw_1118 : (Jvm.Cond.static ({ cls := "FlumeOrdersLaw", name := "order", desc := "(LFlumeOrders;II[J)I" } : Jvm.MethodName)) ∈ TW := in_t5 87 (by decide +kernel) rfl
theorem tw_1119 : (Jvm.Cond.codeWith ({ cls := "FlumeOrdersLaw", name := "order", desc := "(LFlumeOrders;II[J)I" } : Jvm.MethodName) method_13_code (5 : Nat) (Option.some Jvm.ClassFile.FieldType.int) [((0 : Nat), (10 : Nat), (13 : Nat), (21 : Nat)), ((0 : Nat), (10 : Nat), (17 : Nat), (13 : Nat)), ((0 : Nat), (10 : Nat), (21 : Nat), (15 : Nat))]) ∈ TW := in_t5 88 (by decide +kernel) rfl
theorem tw_1120 : (Jvm.Cond.methodLink "FlumeOrdersLaw" (52 : Nat) ({ cls := "FlumeOrders", name := "order", desc := "(II)I" } : Jvm.MethodName)) ∈ TW := in_t5 89 (by decide +kernel) rfl
theorem tw_1121 : (Jvm.Cond.instanceMethod ({ cls := "FlumeOrders", name := "order", desc := "(II)I" } : Jvm.MethodName)) ∈ TW := in_t5 90 (by decide +kernel) rfl
theorem tw_1122 : (Jvm.Cond.selects "FlumeOrders" ({ cls := "FlumeOrders", name := "order", desc := "(II)I" } : Jvm.MethodName) ({ cls := "FlumeOrders", name := "order", desc := "(II)I" } : Jvm.MethodName)) ∈ TW := in_t5 91 (by decide +kernel) rfl
theorem tw_1123 : (Jvm.Cond.code ({ cls := "FlumeOrders", name := "order", desc := "(II)I" } : Jvm.MethodName) prog_1_method_16_code (3 : Nat) (Option.some Jvm.ClassFile.FieldType.int)) ∈ TW := in_t5 92 (by decide +kernel) rfl
theorem tw_1124 : (Jvm.Cond.methodLink "FlumeOrders" (236 : Nat) ({ cls := "FlumeOrders$Orders", name := "add", desc := "(II)I" } : Jvm.MethodName)) ∈ TW := in_t5 93 (by decide +kernel) rfl
theorem tw_1125 : (Jvm.Cond.instanceMethod ({ cls := "FlumeOrders$Orders", name := "add", desc := "(II)I" } : Jvm.MethodName)) ∈ TW := in_t5 94 (by decide +kernel) rfl
theorem tw_1126 : (Jvm.Cond.selects "FlumeOrders$Orders" ({ cls := "FlumeOrders$Orders", name := "add", desc := "(II)I" } : Jvm.MethodName) ({ cls := "FlumeOrders$Orders", name := "add", desc := "(II)I" } : Jvm.MethodName)) ∈ TW := in_t5 95 (by decide +kernel) rfl
theorem tw_1127 : (Jvm.Cond.code ({ cls := "FlumeOrders$Orders", name := "add", desc := "(II)I" } : Jvm.MethodName) prog_8_method_2_code (3 : Nat) (Option.some Jvm.ClassFile.FieldType.int)) ∈ TW := in_t5 96 (by decide +kernel) rfl
theorem tw_1128 : (Jvm.Cond.methodLink "FlumeOrdersLaw" (138 : Nat) ({ cls := "FlumeOrdersLaw", name := "ahead", desc := "(LFlumeOrders;III[J)I" } : Jvm.MethodName)) ∈ TW := in_t5 97 (by decide +kernel) rfl
theorem tw_1129 : (Jvm.Cond.static ({ cls := "FlumeOrdersLaw", name := "ahead", desc := "(LFlumeOrders;III[J)I" } : Jvm.MethodName)) ∈ TW := in_t5 98 (by decide +kernel) rfl
theorem tw_1130 : (Jvm.Cond.codeWith ({ cls := "FlumeOrdersLaw", name := "ahead", desc := "(LFlumeOrders;III[J)I" } : Jvm.MethodName) method_14_code (6 : Nat) (Option.some Jvm.ClassFile.FieldType.int) [((0 : Nat), (12 : Nat), (15 : Nat), (21 : Nat)), ((0 : Nat), (12 : Nat), (19 : Nat), (13 : Nat))]) ∈ TW := in_t5 99 (by decide +kernel) rfl
theorem tw_1131 : (Jvm.Cond.methodLink "FlumeOrdersLaw" (55 : Nat) ({ cls := "FlumeOrders", name := "ahead", desc := "(III)I" } : Jvm.MethodName)) ∈ TW := in_t5 100 (by decide +kernel) rfl
theorem tw_1132 : (Jvm.Cond.instanceMethod ({ cls := "FlumeOrders", name := "ahead", desc := "(III)I" } : Jvm.MethodName)) ∈ TW := in_t5 101 (by decide +kernel) rfl
theorem tw_1133 : (Jvm.Cond.selects "FlumeOrders" ({ cls := "FlumeOrders", name := "ahead", desc := "(III)I" } : Jvm.MethodName) ({ cls := "FlumeOrders", name := "ahead", desc := "(III)I" } : Jvm.MethodName)) ∈ TW := in_t5 102 (by decide +kernel) rfl
theorem tw_1134 : (Jvm.Cond.code ({ cls := "FlumeOrders", name := "ahead", desc := "(III)I" } : Jvm.MethodName) prog_1_method_17_code (5 : Nat) (Option.some Jvm.ClassFile.FieldType.int)) ∈ TW := in_t5 103 (by decide +kernel) rfl
theorem tw_1135 : (Jvm.Cond.methodLink "FlumeOrders" (238 : Nat) ({ cls := "FlumeOrders", name := "demandOrder", desc := "(I)V" } : Jvm.MethodName)) ∈ TW := in_t5 104 (by decide +kernel) rfl
theorem tw_1137 : (Jvm.Cond.instanceMethod ({ cls := "FlumeOrders", name := "demandOrder", desc := "(I)V" } : Jvm.MethodName)) ∈ TW := in_t5 106 (by decide +kernel) rfl
theorem tw_1138 : (Jvm.Cond.code ({ cls := "FlumeOrders", name := "demandOrder", desc := "(I)V" } : Jvm.MethodName) prog_1_method_30_code (2 : Nat) (Option.none : Option Jvm.ClassFile.FieldType)) ∈ TW := in_t5 107 (by decide +kernel) rfl
theorem tw_1139 : (Jvm.Cond.methodLink "FlumeOrdersLaw" (142 : Nat) ({ cls := "FlumeOrdersLaw", name := "plan", desc := "(LFlumeOrders;I[J)I" } : Jvm.MethodName)) ∈ TW := in_t5 108 (by decide +kernel) rfl
theorem tw_1140 : (Jvm.Cond.static ({ cls := "FlumeOrdersLaw", name := "plan", desc := "(LFlumeOrders;I[J)I" } : Jvm.MethodName)) ∈ TW := in_t5 109 (by decide +kernel) rfl
theorem tw_1141 : (Jvm.Cond.codeWith ({ cls := "FlumeOrdersLaw", name := "plan", desc := "(LFlumeOrders;I[J)I" } : Jvm.MethodName) method_15_code (4 : Nat) (Option.some Jvm.ClassFile.FieldType.int) [((0 : Nat), (9 : Nat), (12 : Nat), (21 : Nat))]) ∈ TW := in_t5 110 (by decide +kernel) rfl
theorem tw_1142 : (Jvm.Cond.methodLink "FlumeOrdersLaw" (59 : Nat) ({ cls := "FlumeOrders", name := "plan", desc := "(I)I" } : Jvm.MethodName)) ∈ TW := in_t5 111 (by decide +kernel) rfl
theorem tw_1143 : (Jvm.Cond.instanceMethod ({ cls := "FlumeOrders", name := "plan", desc := "(I)I" } : Jvm.MethodName)) ∈ TW := in_t5 112 (by decide +kernel) rfl
theorem tw_1144 : (Jvm.Cond.selects "FlumeOrders" ({ cls := "FlumeOrders", name := "plan", desc := "(I)I" } : Jvm.MethodName) ({ cls := "FlumeOrders", name := "plan", desc := "(I)I" } : Jvm.MethodName)) ∈ TW := in_t5 113 (by decide +kernel) rfl
theorem tw_1145 : (Jvm.Cond.code ({ cls := "FlumeOrders", name := "plan", desc := "(I)I" } : Jvm.MethodName) prog_1_method_18_code (2 : Nat) (Option.some Jvm.ClassFile.FieldType.int)) ∈ TW := in_t5 114 (by decide +kernel) rfl
theorem tw_1146 : (Jvm.Cond.methodLink "FlumeOrders" (245 : Nat) ({ cls := "FlumeOrders$Orders", name := "settle", desc := "(LFlumeOrders$Forest;)Z" } : Jvm.MethodName)) ∈ TW := in_t5 115 (by decide +kernel) rfl
theorem tw_1147 : (Jvm.Cond.instanceMethod ({ cls := "FlumeOrders$Orders", name := "settle", desc := "(LFlumeOrders$Forest;)Z" } : Jvm.MethodName)) ∈ TW := in_t5 116 (by decide +kernel) rfl
theorem tw_1148 : (Jvm.Cond.selects "FlumeOrders$Orders" ({ cls := "FlumeOrders$Orders", name := "settle", desc := "(LFlumeOrders$Forest;)Z" } : Jvm.MethodName) ({ cls := "FlumeOrders$Orders", name := "settle", desc := "(LFlumeOrders$Forest;)Z" } : Jvm.MethodName)) ∈ TW := in_t5 117 (by decide +kernel) rfl
theorem tw_1149 : (Jvm.Cond.code ({ cls := "FlumeOrders$Orders", name := "settle", desc := "(LFlumeOrders$Forest;)Z" } : Jvm.MethodName) prog_8_method_3_code (3 : Nat) (Option.some Jvm.ClassFile.FieldType.boolean)) ∈ TW := in_t5 118 (by decide +kernel) rfl
theorem tw_1150 : (Jvm.Cond.methodLink "FlumeOrders$Orders" (33 : Nat) ({ cls := "FlumeOrders$Forest", name := "lengthBetween", desc := "(II)I" } : Jvm.MethodName)) ∈ TW := in_t5 119 (by decide +kernel) rfl
theorem tw_1152 : (Jvm.Cond.methodLink "FlumeOrders$Orders" (46 : Nat) ({ cls := "FlumeOrders$Orders", name := "delaySome", desc := "()Z" } : Jvm.MethodName)) ∈ TW := in_t5 121 (by decide +kernel) rfl
theorem tw_1154 : (Jvm.Cond.instanceMethod ({ cls := "FlumeOrders$Orders", name := "delaySome", desc := "()Z" } : Jvm.MethodName)) ∈ TW := in_t5 123 (by decide +kernel) rfl
theorem tw_1155 : (Jvm.Cond.code ({ cls := "FlumeOrders$Orders", name := "delaySome", desc := "()Z" } : Jvm.MethodName) prog_8_method_4_code (5 : Nat) (Option.some Jvm.ClassFile.FieldType.boolean)) ∈ TW := in_t5 124 (by decide +kernel) rfl
theorem tw_1156 : (Jvm.Cond.methodLink "FlumeOrders" (249 : Nat) ({ cls := "FlumeOrders$Orders", name := "span", desc := "()I" } : Jvm.MethodName)) ∈ TW := in_t5 125 (by decide +kernel) rfl
theorem tw_1157 : (Jvm.Cond.instanceMethod ({ cls := "FlumeOrders$Orders", name := "span", desc := "()I" } : Jvm.MethodName)) ∈ TW := in_t5 126 (by decide +kernel) rfl
theorem tw_1158 : (Jvm.Cond.selects "FlumeOrders$Orders" ({ cls := "FlumeOrders$Orders", name := "span", desc := "()I" } : Jvm.MethodName) ({ cls := "FlumeOrders$Orders", name := "span", desc := "()I" } : Jvm.MethodName)) ∈ TW := in_t5 127 (by decide +kernel) rfl
theorem tw_1159 : (Jvm.Cond.code ({ cls := "FlumeOrders$Orders", name := "span", desc := "()I" } : Jvm.MethodName) prog_8_method_5_code (3 : Nat) (Option.some Jvm.ClassFile.FieldType.int)) ∈ TW := in_t5 128 (by decide +kernel) rfl
theorem tw_1160 : (Jvm.Cond.methodLink "FlumeOrders$Orders" (50 : Nat) ({ cls := "java/lang/Math", name := "max", desc := "(II)I" } : Jvm.MethodName)) ∈ TW := in_t5 129 (by decide +kernel) rfl
theorem tw_1161 : (Jvm.Cond.methodLink "FlumeOrdersLaw" (145 : Nat) ({ cls := "FlumeOrdersLaw", name := "chance", desc := "(LFlumeOrders;II[J)I" } : Jvm.MethodName)) ∈ TW := in_t5 130 (by decide +kernel) rfl
theorem tw_1162 : (Jvm.Cond.static ({ cls := "FlumeOrdersLaw", name := "chance", desc := "(LFlumeOrders;II[J)I" } : Jvm.MethodName)) ∈ TW := in_t5 131 (by decide +kernel) rfl
theorem tw_1163 : (Jvm.Cond.codeWith ({ cls := "FlumeOrdersLaw", name := "chance", desc := "(LFlumeOrders;II[J)I" } : Jvm.MethodName) method_16_code (5 : Nat) (Option.some Jvm.ClassFile.FieldType.int) [((0 : Nat), (10 : Nat), (13 : Nat), (21 : Nat)), ((0 : Nat), (10 : Nat), (17 : Nat), (13 : Nat))]) ∈ TW := in_t5 132 (by decide +kernel) rfl
theorem tw_1164 : (Jvm.Cond.methodLink "FlumeOrdersLaw" (62 : Nat) ({ cls := "FlumeOrders", name := "chance", desc := "(II)I" } : Jvm.MethodName)) ∈ TW := in_t5 133 (by decide +kernel) rfl
theorem tw_1165 : (Jvm.Cond.instanceMethod ({ cls := "FlumeOrders", name := "chance", desc := "(II)I" } : Jvm.MethodName)) ∈ TW := in_t5 134 (by decide +kernel) rfl
theorem tw_1166 : (Jvm.Cond.selects "FlumeOrders" ({ cls := "FlumeOrders", name := "chance", desc := "(II)I" } : Jvm.MethodName) ({ cls := "FlumeOrders", name := "chance", desc := "(II)I" } : Jvm.MethodName)) ∈ TW := in_t5 135 (by decide +kernel) rfl
theorem tw_1167 : (Jvm.Cond.code ({ cls := "FlumeOrders", name := "chance", desc := "(II)I" } : Jvm.MethodName) prog_1_method_19_code (3 : Nat) (Option.some Jvm.ClassFile.FieldType.int)) ∈ TW := in_t5 136 (by decide +kernel) rfl
theorem tw_1168 : (Jvm.Cond.methodLink "FlumeOrders" (255 : Nat) ({ cls := "FlumeOrders$Forest", name := "billionths", desc := "(II)I" } : Jvm.MethodName)) ∈ TW := in_t5 137 (by decide +kernel) rfl
theorem tw_1169 : (Jvm.Cond.instanceMethod ({ cls := "FlumeOrders$Forest", name := "billionths", desc := "(II)I" } : Jvm.MethodName)) ∈ TW := in_t5 138 (by decide +kernel) rfl
theorem tw_1170 : (Jvm.Cond.selects "FlumeOrders$Forest" ({ cls := "FlumeOrders$Forest", name := "billionths", desc := "(II)I" } : Jvm.MethodName) ({ cls := "FlumeOrders$Forest", name := "billionths", desc := "(II)I" } : Jvm.MethodName)) ∈ TW := in_t5 139 (by decide +kernel) rfl
theorem tw_1171 : (Jvm.Cond.code ({ cls := "FlumeOrders$Forest", name := "billionths", desc := "(II)I" } : Jvm.MethodName) prog_6_method_16_code (6 : Nat) (Option.some Jvm.ClassFile.FieldType.int)) ∈ TW := in_t5 140 (by decide +kernel) rfl
theorem tw_1172 : (Jvm.Cond.constantLong "FlumeOrders$Forest" (202 : Nat) (1000000000 : Int64)) ∈ TW := in_t5 141 (by decide +kernel) rfl
theorem tw_1173 : (Jvm.Cond.constantLong "FlumeOrders$Forest" (204 : Nat) (100 : Int64)) ∈ TW := in_t5 142 (by decide +kernel) rfl
theorem tw_1174 : (Jvm.Cond.methodLink "FlumeOrdersLaw" (148 : Nat) ({ cls := "FlumeOrdersLaw", name := "repeats", desc := "(LFlumeOrders;III[J)I" } : Jvm.MethodName)) ∈ TW := in_t5 143 (by decide +kernel) rfl
theorem tw_1175 : (Jvm.Cond.static ({ cls := "FlumeOrdersLaw", name := "repeats", desc := "(LFlumeOrders;III[J)I" } : Jvm.MethodName)) ∈ TW := in_t5 144 (by decide +kernel) rfl
theorem tw_1176 : (Jvm.Cond.codeWith ({ cls := "FlumeOrdersLaw", name := "repeats", desc := "(LFlumeOrders;III[J)I" } : Jvm.MethodName) method_17_code (6 : Nat) (Option.some Jvm.ClassFile.FieldType.int) [((0 : Nat), (12 : Nat), (15 : Nat), (21 : Nat)), ((0 : Nat), (12 : Nat), (19 : Nat), (13 : Nat))]) ∈ TW := in_t5 145 (by decide +kernel) rfl
theorem tw_1177 : (Jvm.Cond.methodLink "FlumeOrdersLaw" (65 : Nat) ({ cls := "FlumeOrders", name := "repeats", desc := "(III)I" } : Jvm.MethodName)) ∈ TW := in_t5 146 (by decide +kernel) rfl
theorem tw_1178 : (Jvm.Cond.instanceMethod ({ cls := "FlumeOrders", name := "repeats", desc := "(III)I" } : Jvm.MethodName)) ∈ TW := in_t5 147 (by decide +kernel) rfl
theorem tw_1179 : (Jvm.Cond.selects "FlumeOrders" ({ cls := "FlumeOrders", name := "repeats", desc := "(III)I" } : Jvm.MethodName) ({ cls := "FlumeOrders", name := "repeats", desc := "(III)I" } : Jvm.MethodName)) ∈ TW := in_t5 148 (by decide +kernel) rfl
theorem tw_1180 : (Jvm.Cond.code ({ cls := "FlumeOrders", name := "repeats", desc := "(III)I" } : Jvm.MethodName) prog_1_method_20_code (11 : Nat) (Option.some Jvm.ClassFile.FieldType.int)) ∈ TW := in_t5 149 (by decide +kernel) rfl
theorem tw_1181 : (Jvm.Cond.constant "FlumeOrders" (258 : Nat) (1000000 : Int32)) ∈ TW := in_t5 150 (by decide +kernel) rfl
theorem tw_1182 : (Jvm.Cond.constantLong "FlumeOrders" (259 : Nat) (1000 : Int64)) ∈ TW := in_t5 151 (by decide +kernel) rfl
theorem tw_1183 : (Jvm.Cond.constant "FlumeOrders" (261 : Nat) (1000000000 : Int32)) ∈ TW := in_t5 152 (by decide +kernel) rfl
theorem tw_1184 : (Jvm.Cond.constantLong "FlumeOrders" (262 : Nat) (1000000000 : Int64)) ∈ TW := in_t5 153 (by decide +kernel) rfl
theorem tw_1185 : (Jvm.Cond.methodLink "FlumeOrdersLaw" (151 : Nat) ({ cls := "FlumeOrdersLaw", name := "fits", desc := "(LFlumeOrders;I[J)I" } : Jvm.MethodName)) ∈ TW := in_t5 154 (by decide +kernel) rfl
theorem tw_1186 : (Jvm.Cond.static ({ cls := "FlumeOrdersLaw", name := "fits", desc := "(LFlumeOrders;I[J)I" } : Jvm.MethodName)) ∈ TW := in_t5 155 (by decide +kernel) rfl
theorem tw_1187 : (Jvm.Cond.codeWith ({ cls := "FlumeOrdersLaw", name := "fits", desc := "(LFlumeOrders;I[J)I" } : Jvm.MethodName) method_18_code (4 : Nat) (Option.some Jvm.ClassFile.FieldType.int) [((0 : Nat), (9 : Nat), (12 : Nat), (13 : Nat))]) ∈ TW := in_t5 156 (by decide +kernel) rfl
theorem tw_1188 : (Jvm.Cond.methodLink "FlumeOrdersLaw" (68 : Nat) ({ cls := "FlumeOrders", name := "fits", desc := "(I)I" } : Jvm.MethodName)) ∈ TW := in_t5 157 (by decide +kernel) rfl
theorem tw_1189 : (Jvm.Cond.instanceMethod ({ cls := "FlumeOrders", name := "fits", desc := "(I)I" } : Jvm.MethodName)) ∈ TW := in_t5 158 (by decide +kernel) rfl
theorem tw_1190 : (Jvm.Cond.selects "FlumeOrders" ({ cls := "FlumeOrders", name := "fits", desc := "(I)I" } : Jvm.MethodName) ({ cls := "FlumeOrders", name := "fits", desc := "(I)I" } : Jvm.MethodName)) ∈ TW := in_t5 159 (by decide +kernel) rfl
theorem tw_1191 : (Jvm.Cond.code ({ cls := "FlumeOrders", name := "fits", desc := "(I)I" } : Jvm.MethodName) prog_1_method_21_code (3 : Nat) (Option.some Jvm.ClassFile.FieldType.int)) ∈ TW := in_t5 160 (by decide +kernel) rfl
theorem tw_1192 : (Jvm.Cond.methodLink "FlumeOrders" (264 : Nat) ({ cls := "FlumeOrders$Row", name := "read", desc := "(LFlumeOrders$Tape;)Z" } : Jvm.MethodName)) ∈ TW := in_t5 161 (by decide +kernel) rfl
theorem tw_1193 : (Jvm.Cond.instanceMethod ({ cls := "FlumeOrders$Row", name := "read", desc := "(LFlumeOrders$Tape;)Z" } : Jvm.MethodName)) ∈ TW := in_t5 162 (by decide +kernel) rfl
theorem tw_1194 : (Jvm.Cond.selects "FlumeOrders$Row" ({ cls := "FlumeOrders$Row", name := "read", desc := "(LFlumeOrders$Tape;)Z" } : Jvm.MethodName) ({ cls := "FlumeOrders$Row", name := "read", desc := "(LFlumeOrders$Tape;)Z" } : Jvm.MethodName)) ∈ TW := in_t5 163 (by decide +kernel) rfl
theorem tw_1195 : (Jvm.Cond.code ({ cls := "FlumeOrders$Row", name := "read", desc := "(LFlumeOrders$Tape;)Z" } : Jvm.MethodName) prog_10_method_2_code (4 : Nat) (Option.some Jvm.ClassFile.FieldType.boolean)) ∈ TW := in_t5 164 (by decide +kernel) rfl
theorem tw_1196 : (Jvm.Cond.methodLink "FlumeOrders$Row" (28 : Nat) ({ cls := "FlumeOrders$Tape", name := "useUp", desc := "()I" } : Jvm.MethodName)) ∈ TW := in_t5 165 (by decide +kernel) rfl
theorem tw_1197 : (Jvm.Cond.methodLink "FlumeOrders" (267 : Nat) ({ cls := "FlumeOrders$Row", name := "tryAll", desc := "(II)V" } : Jvm.MethodName)) ∈ TW := in_t5 166 (by decide +kernel) rfl
theorem tw_1198 : (Jvm.Cond.instanceMethod ({ cls := "FlumeOrders$Row", name := "tryAll", desc := "(II)V" } : Jvm.MethodName)) ∈ TW := in_t5 167 (by decide +kernel) rfl
theorem tw_1199 : (Jvm.Cond.selects "FlumeOrders$Row" ({ cls := "FlumeOrders$Row", name := "tryAll", desc := "(II)V" } : Jvm.MethodName) ({ cls := "FlumeOrders$Row", name := "tryAll", desc := "(II)V" } : Jvm.MethodName)) ∈ TW := in_t5 168 (by decide +kernel) rfl
theorem tw_1200 : (Jvm.Cond.code ({ cls := "FlumeOrders$Row", name := "tryAll", desc := "(II)V" } : Jvm.MethodName) prog_10_method_3_code (5 : Nat) (Option.none : Option Jvm.ClassFile.FieldType)) ∈ TW := in_t5 169 (by decide +kernel) rfl
theorem tw_1201 : (Jvm.Cond.methodLink "FlumeOrders$Row" (40 : Nat) ({ cls := "FlumeOrders$Row", name := "sortTold", desc := "()V" } : Jvm.MethodName)) ∈ TW := in_t5 170 (by decide +kernel) rfl
theorem tw_1203 : (Jvm.Cond.instanceMethod ({ cls := "FlumeOrders$Row", name := "sortTold", desc := "()V" } : Jvm.MethodName)) ∈ TW := in_t5 172 (by decide +kernel) rfl
theorem tw_1204 : (Jvm.Cond.code ({ cls := "FlumeOrders$Row", name := "sortTold", desc := "()V" } : Jvm.MethodName) prog_10_method_4_code (3 : Nat) (Option.none : Option Jvm.ClassFile.FieldType)) ∈ TW := in_t5 173 (by decide +kernel) rfl
theorem tw_1205 : (Jvm.Cond.methodLink "FlumeOrders$Row" (43 : Nat) ({ cls := "FlumeOrders$Row", name := "comesAsTold", desc := "(II)Z" } : Jvm.MethodName)) ∈ TW := in_t5 174 (by decide +kernel) rfl
theorem tw_1207 : (Jvm.Cond.instanceMethod ({ cls := "FlumeOrders$Row", name := "comesAsTold", desc := "(II)Z" } : Jvm.MethodName)) ∈ TW := in_t5 176 (by decide +kernel) rfl
theorem tw_1208 : (Jvm.Cond.code ({ cls := "FlumeOrders$Row", name := "comesAsTold", desc := "(II)Z" } : Jvm.MethodName) prog_10_method_5_code (7 : Nat) (Option.some Jvm.ClassFile.FieldType.boolean)) ∈ TW := in_t5 177 (by decide +kernel) rfl
theorem tw_1210 : (Jvm.Cond.methodLink "FlumeOrders$Row" (47 : Nat) ({ cls := "java/lang/System", name := "arraycopy", desc := "(Ljava/lang/Object;ILjava/lang/Object;II)V" } : Jvm.MethodName)) ∈ TW := in_t5 179 (by decide +kernel) rfl
theorem tw_1211 : (Jvm.Cond.static ({ cls := "java/lang/System", name := "arraycopy", desc := "(Ljava/lang/Object;ILjava/lang/Object;II)V" } : Jvm.MethodName)) ∈ TW := in_t5 180 (by decide +kernel) rfl
theorem tw_1212 : (Jvm.Cond.native ({ cls := "java/lang/System", name := "arraycopy", desc := "(Ljava/lang/Object;ILjava/lang/Object;II)V" } : Jvm.MethodName)) ∈ TW := in_t5 181 (by decide +kernel) rfl
theorem tw_1213 : (Jvm.Cond.methodLink "FlumeOrders$Row" (53 : Nat) ({ cls := "FlumeOrders$Row", name := "goToNext", desc := "()Z" } : Jvm.MethodName)) ∈ TW := in_t5 182 (by decide +kernel) rfl
theorem tw_1215 : (Jvm.Cond.instanceMethod ({ cls := "FlumeOrders$Row", name := "goToNext", desc := "()Z" } : Jvm.MethodName)) ∈ TW := in_t5 184 (by decide +kernel) rfl
theorem tw_1216 : (Jvm.Cond.code ({ cls := "FlumeOrders$Row", name := "goToNext", desc := "()Z" } : Jvm.MethodName) prog_10_method_6_code (5 : Nat) (Option.some Jvm.ClassFile.FieldType.boolean)) ∈ TW := in_t5 185 (by decide +kernel) rfl
theorem tw_1217 : (Jvm.Cond.methodLink "FlumeOrders$Row" (61 : Nat) ({ cls := "FlumeOrders$Row", name := "swap", desc := "(II)V" } : Jvm.MethodName)) ∈ TW := in_t5 186 (by decide +kernel) rfl
theorem tw_1219 : (Jvm.Cond.instanceMethod ({ cls := "FlumeOrders$Row", name := "swap", desc := "(II)V" } : Jvm.MethodName)) ∈ TW := in_t5 188 (by decide +kernel) rfl
theorem tw_1220 : (Jvm.Cond.code ({ cls := "FlumeOrders$Row", name := "swap", desc := "(II)V" } : Jvm.MethodName) prog_10_method_7_code (4 : Nat) (Option.none : Option Jvm.ClassFile.FieldType)) ∈ TW := in_t5 189 (by decide +kernel) rfl
theorem tw_1221 : (Jvm.Cond.methodLink "FlumeOrdersLaw" (158 : Nat) ({ cls := "FlumeOrdersLaw", name := "later", desc := "(LFlumeOrders;II[J)I" } : Jvm.MethodName)) ∈ TW := in_t5 190 (by decide +kernel) rfl
theorem tw_1222 : (Jvm.Cond.static ({ cls := "FlumeOrdersLaw", name := "later", desc := "(LFlumeOrders;II[J)I" } : Jvm.MethodName)) ∈ TW := in_t5 191 (by decide +kernel) rfl
theorem tw_1223 : (Jvm.Cond.codeWith ({ cls := "FlumeOrdersLaw", name := "later", desc := "(LFlumeOrders;II[J)I" } : Jvm.MethodName) method_19_code (5 : Nat) (Option.some Jvm.ClassFile.FieldType.int) [((0 : Nat), (10 : Nat), (13 : Nat), (13 : Nat)), ((0 : Nat), (10 : Nat), (17 : Nat), (36 : Nat))]) ∈ TW := in_t5 192 (by decide +kernel) rfl
theorem tw_1224 : (Jvm.Cond.methodLink "FlumeOrdersLaw" (71 : Nat) ({ cls := "FlumeOrders", name := "later", desc := "(II)I" } : Jvm.MethodName)) ∈ TW := in_t5 193 (by decide +kernel) rfl
theorem tw_1225 : (Jvm.Cond.instanceMethod ({ cls := "FlumeOrders", name := "later", desc := "(II)I" } : Jvm.MethodName)) ∈ TW := in_t5 194 (by decide +kernel) rfl
theorem tw_1226 : (Jvm.Cond.selects "FlumeOrders" ({ cls := "FlumeOrders", name := "later", desc := "(II)I" } : Jvm.MethodName) ({ cls := "FlumeOrders", name := "later", desc := "(II)I" } : Jvm.MethodName)) ∈ TW := in_t5 195 (by decide +kernel) rfl
theorem tw_1227 : (Jvm.Cond.code ({ cls := "FlumeOrders", name := "later", desc := "(II)I" } : Jvm.MethodName) prog_1_method_23_code (3 : Nat) (Option.some Jvm.ClassFile.FieldType.int)) ∈ TW := in_t5 196 (by decide +kernel) rfl
theorem tw_1228 : (Jvm.Cond.methodLink "FlumeOrders" (282 : Nat) ({ cls := "FlumeOrders$Forest", name := "chipsThat", desc := "(I)I" } : Jvm.MethodName)) ∈ TW := in_t5 197 (by decide +kernel) rfl
theorem tw_1229 : (Jvm.Cond.instanceMethod ({ cls := "FlumeOrders$Forest", name := "chipsThat", desc := "(I)I" } : Jvm.MethodName)) ∈ TW := in_t5 198 (by decide +kernel) rfl
theorem tw_1230 : (Jvm.Cond.selects "FlumeOrders$Forest" ({ cls := "FlumeOrders$Forest", name := "chipsThat", desc := "(I)I" } : Jvm.MethodName) ({ cls := "FlumeOrders$Forest", name := "chipsThat", desc := "(I)I" } : Jvm.MethodName)) ∈ TW := in_t5 199 (by decide +kernel) rfl
theorem tw_1231 : (Jvm.Cond.code ({ cls := "FlumeOrders$Forest", name := "chipsThat", desc := "(I)I" } : Jvm.MethodName) prog_6_method_17_code (4 : Nat) (Option.some Jvm.ClassFile.FieldType.int)) ∈ TW := in_t5 200 (by decide +kernel) rfl
theorem tw_1232 : (Jvm.Cond.classLink "FlumeOrdersLaw" (75 : Nat) "FlumeOrdersModel") ∈ TW := in_t5 201 (by decide +kernel) rfl
theorem tw_1233 : (Jvm.Cond.instantiable "FlumeOrdersModel" (25 : Nat)) ∈ TW := in_t5 202 (by decide +kernel) rfl
theorem tw_1234 : (Jvm.Cond.methodLink "FlumeOrdersLaw" (77 : Nat) ({ cls := "FlumeOrdersModel", name := "<init>", desc := "()V" } : Jvm.MethodName)) ∈ TW := in_t5 203 (by decide +kernel) rfl
theorem tw_1235 : (Jvm.Cond.instanceMethod ({ cls := "FlumeOrdersModel", name := "<init>", desc := "()V" } : Jvm.MethodName)) ∈ TW := in_t5 204 (by decide +kernel) rfl
theorem tw_1236 : (Jvm.Cond.code ({ cls := "FlumeOrdersModel", name := "<init>", desc := "()V" } : Jvm.MethodName) prog_15_method_1_code (1 : Nat) (Option.none : Option Jvm.ClassFile.FieldType)) ∈ TW := in_t5 205 (by decide +kernel) rfl
theorem tw_1237 : (Jvm.Cond.methodLink "FlumeOrdersModel" (1 : Nat) ({ cls := "java/lang/Object", name := "<init>", desc := "()V" } : Jvm.MethodName)) ∈ TW := in_t5 206 (by decide +kernel) rfl
theorem tw_1238 : (Jvm.Cond.fieldLink "FlumeOrdersModel" (47 : Nat) "FlumeOrdersModel" "thrown" "I") ∈ TW := in_t5 207 (by decide +kernel) rfl
theorem tw_1239 : (Jvm.Cond.fieldLink "FlumeOrdersModel" (7 : Nat) "FlumeOrdersModel" "m" "[I") ∈ TW := in_t5 208 (by decide +kernel) rfl
theorem tw_1240 : (Jvm.Cond.fieldLink "FlumeOrdersModel" (13 : Nat) "FlumeOrdersModel" "kept" "[I") ∈ TW := in_t5 209 (by decide +kernel) rfl
theorem tw_1241 : (Jvm.Cond.fieldLink "FlumeOrdersModel" (279 : Nat) "FlumeOrdersModel" "hasImage" "Z") ∈ TW := in_t5 210 (by decide +kernel) rfl
theorem tw_1242 : (Jvm.Cond.fieldLink "FlumeOrdersModel" (16 : Nat) "FlumeOrdersModel" "before" "[I") ∈ TW := in_t5 211 (by decide +kernel) rfl
theorem tw_1243 : (Jvm.Cond.fieldLink "FlumeOrdersModel" (19 : Nat) "FlumeOrdersModel" "tape" "[I") ∈ TW := in_t5 212 (by decide +kernel) rfl
theorem tw_1244 : (Jvm.Cond.fieldLink "FlumeOrdersModel" (54 : Nat) "FlumeOrdersModel" "taped" "I") ∈ TW := in_t5 213 (by decide +kernel) rfl
theorem tw_1245 : (Jvm.Cond.fieldLink "FlumeOrdersModel" (57 : Nat) "FlumeOrdersModel" "base" "I") ∈ TW := in_t5 214 (by decide +kernel) rfl
theorem tw_1246 : (Jvm.Cond.fieldLink "FlumeOrdersModel" (63 : Nat) "FlumeOrdersModel" "end" "I") ∈ TW := in_t5 215 (by decide +kernel) rfl
theorem tw_1247 : (Jvm.Cond.fieldLink "FlumeOrdersModel" (60 : Nat) "FlumeOrdersModel" "at" "I") ∈ TW := in_t5 216 (by decide +kernel) rfl
theorem tw_1248 : (Jvm.Cond.fieldLink "FlumeOrdersModel" (22 : Nat) "FlumeOrdersModel" "fault" "I") ∈ TW := in_t5 217 (by decide +kernel) rfl
theorem tw_1249 : (Jvm.Cond.fieldLink "FlumeOrdersModel" (109 : Nat) "FlumeOrdersModel" "deep" "I") ∈ TW := in_t5 218 (by decide +kernel) rfl
theorem tw_1250 : (Jvm.Cond.fieldLink "FlumeOrdersModel" (192 : Nat) "FlumeOrdersModel" "head" "I") ∈ TW := in_t5 219 (by decide +kernel) rfl
theorem tw_1251 : (Jvm.Cond.fieldLink "FlumeOrdersModel" (122 : Nat) "FlumeOrdersModel" "doing" "Z") ∈ TW := in_t5 220 (by decide +kernel) rfl
theorem tw_1252 : (Jvm.Cond.fieldLink "FlumeOrdersModel" (129 : Nat) "FlumeOrdersModel" "doer" "I") ∈ TW := in_t5 221 (by decide +kernel) rfl
theorem tw_1253 : (Jvm.Cond.fieldLink "FlumeOrdersModel" (126 : Nat) "FlumeOrdersModel" "here" "I") ∈ TW := in_t5 222 (by decide +kernel) rfl
theorem tw_1254 : (Jvm.Cond.fieldLink "FlumeOrdersModel" (26 : Nat) "FlumeOrdersModel" "fact" "[I") ∈ TW := in_t5 223 (by decide +kernel) rfl
theorem tw_1255 : (Jvm.Cond.fieldLink "FlumeOrdersModel" (29 : Nat) "FlumeOrdersModel" "told" "[I") ∈ TW := in_t5 224 (by decide +kernel) rfl
theorem tw_1256 : (Jvm.Cond.fieldLink "FlumeOrdersModel" (32 : Nat) "FlumeOrdersModel" "trial" "[I") ∈ TW := in_t5 225 (by decide +kernel) rfl
theorem tw_1257 : (Jvm.Cond.fieldLink "FlumeOrdersModel" (35 : Nat) "FlumeOrdersModel" "first" "[I") ∈ TW := in_t5 226 (by decide +kernel) rfl
theorem tw_1258 : (Jvm.Cond.fieldLink "FlumeOrdersModel" (267 : Nat) "FlumeOrdersModel" "toldMany" "I") ∈ TW := in_t5 227 (by decide +kernel) rfl
theorem tw_1259 : (Jvm.Cond.fieldLink "FlumeOrdersModel" (273 : Nat) "FlumeOrdersModel" "rows" "I") ∈ TW := in_t5 228 (by decide +kernel) rfl
theorem tw_1260 : (Jvm.Cond.fieldLink "FlumeOrdersModel" (38 : Nat) "FlumeOrdersModel" "when" "[I") ∈ TW := in_t5 229 (by decide +kernel) rfl
theorem tw_1261 : (Jvm.Cond.fieldLink "FlumeOrdersModel" (41 : Nat) "FlumeOrdersModel" "shelf" "[I") ∈ TW := in_t5 230 (by decide +kernel) rfl
theorem tw_1262 : (Jvm.Cond.fieldLink "FlumeOrdersModel" (44 : Nat) "FlumeOrdersModel" "stateMany" "[I") ∈ TW := in_t5 231 (by decide +kernel) rfl
theorem tw_1263 : (Jvm.Cond.lays "FlumeOrdersModel" "FlumeOrdersModel" "thrown" "I") ∈ TW := in_t5 232 (by decide +kernel) rfl
theorem tw_1265 : (Jvm.Cond.laysFinal "FlumeOrdersModel" "FlumeOrdersModel" "m" "[I") ∈ TW := in_t5 234 (by decide +kernel) rfl
theorem tw_1267 : (Jvm.Cond.laysFinal "FlumeOrdersModel" "FlumeOrdersModel" "kept" "[I") ∈ TW := in_t5 236 (by decide +kernel) rfl
theorem tw_1269 : (Jvm.Cond.lays "FlumeOrdersModel" "FlumeOrdersModel" "hasImage" "Z") ∈ TW := in_t5 238 (by decide +kernel) rfl
theorem tw_1271 : (Jvm.Cond.laysFinal "FlumeOrdersModel" "FlumeOrdersModel" "before" "[I") ∈ TW := in_t6 0 (by decide +kernel) rfl
theorem tw_1273 : (Jvm.Cond.laysFinal "FlumeOrdersModel" "FlumeOrdersModel" "tape" "[I") ∈ TW := in_t6 2 (by decide +kernel) rfl
theorem tw_1275 : (Jvm.Cond.lays "FlumeOrdersModel" "FlumeOrdersModel" "taped" "I") ∈ TW := in_t6 4 (by decide +kernel) rfl
theorem tw_1277 : (Jvm.Cond.lays "FlumeOrdersModel" "FlumeOrdersModel" "base" "I") ∈ TW := in_t6 6 (by decide +kernel) rfl
theorem tw_1279 : (Jvm.Cond.lays "FlumeOrdersModel" "FlumeOrdersModel" "end" "I") ∈ TW := in_t6 8 (by decide +kernel) rfl
theorem tw_1281 : (Jvm.Cond.lays "FlumeOrdersModel" "FlumeOrdersModel" "at" "I") ∈ TW := in_t6 10 (by decide +kernel) rfl
theorem tw_1283 : (Jvm.Cond.lays "FlumeOrdersModel" "FlumeOrdersModel" "fault" "I") ∈ TW := in_t6 12 (by decide +kernel) rfl
theorem tw_1285 : (Jvm.Cond.lays "FlumeOrdersModel" "FlumeOrdersModel" "deep" "I") ∈ TW := in_t6 14 (by decide +kernel) rfl
theorem tw_1287 : (Jvm.Cond.lays "FlumeOrdersModel" "FlumeOrdersModel" "head" "I") ∈ TW := in_t6 16 (by decide +kernel) rfl
theorem tw_1289 : (Jvm.Cond.lays "FlumeOrdersModel" "FlumeOrdersModel" "doing" "Z") ∈ TW := in_t6 18 (by decide +kernel) rfl
theorem tw_1291 : (Jvm.Cond.lays "FlumeOrdersModel" "FlumeOrdersModel" "doer" "I") ∈ TW := in_t6 20 (by decide +kernel) rfl
theorem tw_1293 : (Jvm.Cond.lays "FlumeOrdersModel" "FlumeOrdersModel" "here" "I") ∈ TW := in_t6 22 (by decide +kernel) rfl
theorem tw_1295 : (Jvm.Cond.laysFinal "FlumeOrdersModel" "FlumeOrdersModel" "fact" "[I") ∈ TW := in_t6 24 (by decide +kernel) rfl
theorem tw_1297 : (Jvm.Cond.laysFinal "FlumeOrdersModel" "FlumeOrdersModel" "told" "[I") ∈ TW := in_t6 26 (by decide +kernel) rfl
theorem tw_1299 : (Jvm.Cond.laysFinal "FlumeOrdersModel" "FlumeOrdersModel" "trial" "[I") ∈ TW := in_t6 28 (by decide +kernel) rfl
theorem tw_1301 : (Jvm.Cond.laysFinal "FlumeOrdersModel" "FlumeOrdersModel" "first" "[I") ∈ TW := in_t6 30 (by decide +kernel) rfl
theorem tw_1303 : (Jvm.Cond.lays "FlumeOrdersModel" "FlumeOrdersModel" "toldMany" "I") ∈ TW := in_t6 32 (by decide +kernel) rfl
theorem tw_1305 : (Jvm.Cond.lays "FlumeOrdersModel" "FlumeOrdersModel" "rows" "I") ∈ TW := in_t6 34 (by decide +kernel) rfl
theorem tw_1307 : (Jvm.Cond.laysFinal "FlumeOrdersModel" "FlumeOrdersModel" "when" "[I") ∈ TW := in_t6 36 (by decide +kernel) rfl
theorem tw_1309 : (Jvm.Cond.laysFinal "FlumeOrdersModel" "FlumeOrdersModel" "shelf" "[I") ∈ TW := in_t6 38 (by decide +kernel) rfl
theorem tw_1311 : (Jvm.Cond.laysFinal "FlumeOrdersModel" "FlumeOrdersModel" "stateMany" "[I") ∈ TW := in_t6 40 (by decide +kernel) rfl
theorem tw_1314 : (Jvm.Cond.methodLink "FlumeOrdersLaw" (93 : Nat) ({ cls := "FlumeOrdersModel", name := "thrown", desc := "()I" } : Jvm.MethodName)) ∈ TW := in_t6 43 (by decide +kernel) rfl
theorem tw_1315 : (Jvm.Cond.instanceMethod ({ cls := "FlumeOrdersModel", name := "thrown", desc := "()I" } : Jvm.MethodName)) ∈ TW := in_t6 44 (by decide +kernel) rfl
theorem tw_1316 : (Jvm.Cond.selects "FlumeOrdersModel" ({ cls := "FlumeOrdersModel", name := "thrown", desc := "()I" } : Jvm.MethodName) ({ cls := "FlumeOrdersModel", name := "thrown", desc := "()I" } : Jvm.MethodName)) ∈ TW := in_t6 45 (by decide +kernel) rfl
theorem tw_1317 : (Jvm.Cond.code ({ cls := "FlumeOrdersModel", name := "thrown", desc := "()I" } : Jvm.MethodName) prog_15_method_2_code (1 : Nat) (Option.some Jvm.ClassFile.FieldType.int)) ∈ TW := in_t6 46 (by decide +kernel) rfl
theorem tw_1318 : (Jvm.Cond.methodLink "FlumeOrdersLaw" (81 : Nat) ({ cls := "FlumeOrdersModel", name := "feed", desc := "(IIIII)I" } : Jvm.MethodName)) ∈ TW := in_t6 47 (by decide +kernel) rfl
theorem tw_1319 : (Jvm.Cond.instanceMethod ({ cls := "FlumeOrdersModel", name := "feed", desc := "(IIIII)I" } : Jvm.MethodName)) ∈ TW := in_t6 48 (by decide +kernel) rfl
theorem tw_1320 : (Jvm.Cond.selects "FlumeOrdersModel" ({ cls := "FlumeOrdersModel", name := "feed", desc := "(IIIII)I" } : Jvm.MethodName) ({ cls := "FlumeOrdersModel", name := "feed", desc := "(IIIII)I" } : Jvm.MethodName)) ∈ TW := in_t6 49 (by decide +kernel) rfl
theorem tw_1321 : (Jvm.Cond.code ({ cls := "FlumeOrdersModel", name := "feed", desc := "(IIIII)I" } : Jvm.MethodName) prog_15_method_9_code (8 : Nat) (Option.some Jvm.ClassFile.FieldType.int)) ∈ TW := in_t6 50 (by decide +kernel) rfl
theorem tw_1322 : (Jvm.Cond.methodLink "FlumeOrdersLaw" (86 : Nat) ({ cls := "FlumeOrdersModel", name := "end", desc := "(I)Z" } : Jvm.MethodName)) ∈ TW := in_t6 51 (by decide +kernel) rfl
theorem tw_1323 : (Jvm.Cond.instanceMethod ({ cls := "FlumeOrdersModel", name := "end", desc := "(I)Z" } : Jvm.MethodName)) ∈ TW := in_t6 52 (by decide +kernel) rfl
theorem tw_1324 : (Jvm.Cond.selects "FlumeOrdersModel" ({ cls := "FlumeOrdersModel", name := "end", desc := "(I)Z" } : Jvm.MethodName) ({ cls := "FlumeOrdersModel", name := "end", desc := "(I)Z" } : Jvm.MethodName)) ∈ TW := in_t6 53 (by decide +kernel) rfl
theorem tw_1325 : (Jvm.Cond.code ({ cls := "FlumeOrdersModel", name := "end", desc := "(I)Z" } : Jvm.MethodName) prog_15_method_10_code (2 : Nat) (Option.some Jvm.ClassFile.FieldType.boolean)) ∈ TW := in_t6 54 (by decide +kernel) rfl
theorem tw_1326 : (Jvm.Cond.methodLink "FlumeOrdersModel" (50 : Nat) ({ cls := "FlumeOrdersModel", name := "isIn", desc := "(III)Z" } : Jvm.MethodName)) ∈ TW := in_t6 55 (by decide +kernel) rfl
theorem tw_1327 : (Jvm.Cond.static ({ cls := "FlumeOrdersModel", name := "isIn", desc := "(III)Z" } : Jvm.MethodName)) ∈ TW := in_t6 56 (by decide +kernel) rfl
theorem tw_1328 : (Jvm.Cond.code ({ cls := "FlumeOrdersModel", name := "isIn", desc := "(III)Z" } : Jvm.MethodName) prog_15_method_3_code (3 : Nat) (Option.some Jvm.ClassFile.FieldType.boolean)) ∈ TW := in_t6 57 (by decide +kernel) rfl
theorem tw_1329 : (Jvm.Cond.methodLink "FlumeOrdersLaw" (92 : Nat) ({ cls := "FlumeOrdersModel", name := "forest", desc := "()I" } : Jvm.MethodName)) ∈ TW := in_t6 58 (by decide +kernel) rfl
theorem tw_1330 : (Jvm.Cond.instanceMethod ({ cls := "FlumeOrdersModel", name := "forest", desc := "()I" } : Jvm.MethodName)) ∈ TW := in_t6 59 (by decide +kernel) rfl
theorem tw_1331 : (Jvm.Cond.selects "FlumeOrdersModel" ({ cls := "FlumeOrdersModel", name := "forest", desc := "()I" } : Jvm.MethodName) ({ cls := "FlumeOrdersModel", name := "forest", desc := "()I" } : Jvm.MethodName)) ∈ TW := in_t6 60 (by decide +kernel) rfl
theorem tw_1332 : (Jvm.Cond.code ({ cls := "FlumeOrdersModel", name := "forest", desc := "()I" } : Jvm.MethodName) prog_15_method_19_code (4 : Nat) (Option.some Jvm.ClassFile.FieldType.int)) ∈ TW := in_t6 61 (by decide +kernel) rfl
theorem tw_1333 : (Jvm.Cond.methodLink "FlumeOrdersModel" (112 : Nat) ({ cls := "FlumeOrdersModel", name := "begins", desc := "()V" } : Jvm.MethodName)) ∈ TW := in_t6 62 (by decide +kernel) rfl
theorem tw_1335 : (Jvm.Cond.instanceMethod ({ cls := "FlumeOrdersModel", name := "begins", desc := "()V" } : Jvm.MethodName)) ∈ TW := in_t6 64 (by decide +kernel) rfl
theorem tw_1336 : (Jvm.Cond.code ({ cls := "FlumeOrdersModel", name := "begins", desc := "()V" } : Jvm.MethodName) prog_15_method_18_code (1 : Nat) (Option.none : Option Jvm.ClassFile.FieldType)) ∈ TW := in_t6 65 (by decide +kernel) rfl
theorem tw_1337 : (Jvm.Cond.methodLink "FlumeOrdersModel" (70 : Nat) ({ cls := "FlumeOrdersModel", name := "skip", desc := "()V" } : Jvm.MethodName)) ∈ TW := in_t6 66 (by decide +kernel) rfl
theorem tw_1339 : (Jvm.Cond.instanceMethod ({ cls := "FlumeOrdersModel", name := "skip", desc := "()V" } : Jvm.MethodName)) ∈ TW := in_t6 68 (by decide +kernel) rfl
theorem tw_1340 : (Jvm.Cond.code ({ cls := "FlumeOrdersModel", name := "skip", desc := "()V" } : Jvm.MethodName) prog_15_method_12_code (1 : Nat) (Option.none : Option Jvm.ClassFile.FieldType)) ∈ TW := in_t6 69 (by decide +kernel) rfl
theorem tw_1341 : (Jvm.Cond.methodLink "FlumeOrdersModel" (66 : Nat) ({ cls := "FlumeOrdersModel", name := "letter", desc := "(I)I" } : Jvm.MethodName)) ∈ TW := in_t6 70 (by decide +kernel) rfl
theorem tw_1343 : (Jvm.Cond.instanceMethod ({ cls := "FlumeOrdersModel", name := "letter", desc := "(I)I" } : Jvm.MethodName)) ∈ TW := in_t6 72 (by decide +kernel) rfl
theorem tw_1344 : (Jvm.Cond.code ({ cls := "FlumeOrdersModel", name := "letter", desc := "(I)I" } : Jvm.MethodName) prog_15_method_11_code (2 : Nat) (Option.some Jvm.ClassFile.FieldType.int)) ∈ TW := in_t6 73 (by decide +kernel) rfl
theorem tw_1345 : (Jvm.Cond.methodLink "FlumeOrdersModel" (83 : Nat) ({ cls := "FlumeOrdersModel", name := "wrong", desc := "(I)V" } : Jvm.MethodName)) ∈ TW := in_t6 74 (by decide +kernel) rfl
theorem tw_1347 : (Jvm.Cond.instanceMethod ({ cls := "FlumeOrdersModel", name := "wrong", desc := "(I)V" } : Jvm.MethodName)) ∈ TW := in_t6 76 (by decide +kernel) rfl
theorem tw_1348 : (Jvm.Cond.code ({ cls := "FlumeOrdersModel", name := "wrong", desc := "(I)V" } : Jvm.MethodName) prog_15_method_15_code (2 : Nat) (Option.none : Option Jvm.ClassFile.FieldType)) ∈ TW := in_t6 77 (by decide +kernel) rfl
theorem tw_1349 : (Jvm.Cond.methodLink "FlumeOrdersModel" (115 : Nat) ({ cls := "FlumeOrdersModel", name := "forestLine", desc := "()V" } : Jvm.MethodName)) ∈ TW := in_t6 78 (by decide +kernel) rfl
theorem tw_1351 : (Jvm.Cond.instanceMethod ({ cls := "FlumeOrdersModel", name := "forestLine", desc := "()V" } : Jvm.MethodName)) ∈ TW := in_t6 80 (by decide +kernel) rfl
theorem tw_1352 : (Jvm.Cond.code ({ cls := "FlumeOrdersModel", name := "forestLine", desc := "()V" } : Jvm.MethodName) prog_15_method_17_code (6 : Nat) (Option.none : Option Jvm.ClassFile.FieldType)) ∈ TW := in_t6 81 (by decide +kernel) rfl
theorem tw_1354 : (Jvm.Cond.methodLink "FlumeOrdersModel" (89 : Nat) ({ cls := "FlumeOrdersModel", name := "has", desc := "(Ljava/lang/String;)Z" } : Jvm.MethodName)) ∈ TW := in_t6 83 (by decide +kernel) rfl
theorem tw_1356 : (Jvm.Cond.instanceMethod ({ cls := "FlumeOrdersModel", name := "has", desc := "(Ljava/lang/String;)Z" } : Jvm.MethodName)) ∈ TW := in_t6 85 (by decide +kernel) rfl
theorem tw_1357 : (Jvm.Cond.code ({ cls := "FlumeOrdersModel", name := "has", desc := "(Ljava/lang/String;)Z" } : Jvm.MethodName) prog_15_method_14_code (4 : Nat) (Option.some Jvm.ClassFile.FieldType.boolean)) ∈ TW := in_t6 86 (by decide +kernel) rfl
theorem tw_1358 : (Jvm.Cond.methodLink "FlumeOrdersModel" (73 : Nat) ({ cls := "java/lang/String", name := "length", desc := "()I" } : Jvm.MethodName)) ∈ TW := in_t6 87 (by decide +kernel) rfl
theorem tw_1359 : (Jvm.Cond.methodLink "FlumeOrdersModel" (79 : Nat) ({ cls := "java/lang/String", name := "charAt", desc := "(I)C" } : Jvm.MethodName)) ∈ TW := in_t6 88 (by decide +kernel) rfl
theorem tw_1360 : (Jvm.Cond.methodLink "FlumeOrdersModel" (93 : Nat) ({ cls := "FlumeOrdersModel", name := "figures", desc := "(II)I" } : Jvm.MethodName)) ∈ TW := in_t6 89 (by decide +kernel) rfl
theorem tw_1362 : (Jvm.Cond.instanceMethod ({ cls := "FlumeOrdersModel", name := "figures", desc := "(II)I" } : Jvm.MethodName)) ∈ TW := in_t6 91 (by decide +kernel) rfl
theorem tw_1363 : (Jvm.Cond.code ({ cls := "FlumeOrdersModel", name := "figures", desc := "(II)I" } : Jvm.MethodName) prog_15_method_16_code (5 : Nat) (Option.some Jvm.ClassFile.FieldType.int)) ∈ TW := in_t6 92 (by decide +kernel) rfl
theorem tw_1370 : (Jvm.Cond.methodLink "FlumeOrdersModel" (118 : Nat) ({ cls := "FlumeOrdersModel", name := "isSign", desc := "(I)Z" } : Jvm.MethodName)) ∈ TW := in_t6 99 (by decide +kernel) rfl
theorem tw_1372 : (Jvm.Cond.instanceMethod ({ cls := "FlumeOrdersModel", name := "isSign", desc := "(I)Z" } : Jvm.MethodName)) ∈ TW := in_t6 101 (by decide +kernel) rfl
theorem tw_1373 : (Jvm.Cond.code ({ cls := "FlumeOrdersModel", name := "isSign", desc := "(I)Z" } : Jvm.MethodName) prog_15_method_13_code (2 : Nat) (Option.some Jvm.ClassFile.FieldType.boolean)) ∈ TW := in_t6 102 (by decide +kernel) rfl
theorem tw_1375 : (Jvm.Cond.methodLink "FlumeOrdersLaw" (103 : Nat) ({ cls := "FlumeOrdersModel", name := "fault", desc := "()I" } : Jvm.MethodName)) ∈ TW := in_t6 104 (by decide +kernel) rfl
theorem tw_1376 : (Jvm.Cond.instanceMethod ({ cls := "FlumeOrdersModel", name := "fault", desc := "()I" } : Jvm.MethodName)) ∈ TW := in_t6 105 (by decide +kernel) rfl
theorem tw_1377 : (Jvm.Cond.selects "FlumeOrdersModel" ({ cls := "FlumeOrdersModel", name := "fault", desc := "()I" } : Jvm.MethodName) ({ cls := "FlumeOrdersModel", name := "fault", desc := "()I" } : Jvm.MethodName)) ∈ TW := in_t6 106 (by decide +kernel) rfl
theorem tw_1378 : (Jvm.Cond.code ({ cls := "FlumeOrdersModel", name := "fault", desc := "()I" } : Jvm.MethodName) prog_15_method_29_code (1 : Nat) (Option.some Jvm.ClassFile.FieldType.int)) ∈ TW := in_t6 107 (by decide +kernel) rfl
theorem tw_1379 : (Jvm.Cond.methodLink "FlumeOrdersLaw" (99 : Nat) ({ cls := "FlumeOrdersModel", name := "chip", desc := "(II)I" } : Jvm.MethodName)) ∈ TW := in_t6 108 (by decide +kernel) rfl
theorem tw_1380 : (Jvm.Cond.instanceMethod ({ cls := "FlumeOrdersModel", name := "chip", desc := "(II)I" } : Jvm.MethodName)) ∈ TW := in_t6 109 (by decide +kernel) rfl
theorem tw_1381 : (Jvm.Cond.selects "FlumeOrdersModel" ({ cls := "FlumeOrdersModel", name := "chip", desc := "(II)I" } : Jvm.MethodName) ({ cls := "FlumeOrdersModel", name := "chip", desc := "(II)I" } : Jvm.MethodName)) ∈ TW := in_t6 110 (by decide +kernel) rfl
theorem tw_1382 : (Jvm.Cond.code ({ cls := "FlumeOrdersModel", name := "chip", desc := "(II)I" } : Jvm.MethodName) prog_15_method_31_code (5 : Nat) (Option.some Jvm.ClassFile.FieldType.int)) ∈ TW := in_t6 111 (by decide +kernel) rfl
theorem tw_1383 : (Jvm.Cond.methodLink "FlumeOrdersModel" (206 : Nat) ({ cls := "FlumeOrdersModel", name := "isStation", desc := "(II)Z" } : Jvm.MethodName)) ∈ TW := in_t6 112 (by decide +kernel) rfl
theorem tw_1385 : (Jvm.Cond.instanceMethod ({ cls := "FlumeOrdersModel", name := "isStation", desc := "(II)Z" } : Jvm.MethodName)) ∈ TW := in_t6 114 (by decide +kernel) rfl
theorem tw_1386 : (Jvm.Cond.code ({ cls := "FlumeOrdersModel", name := "isStation", desc := "(II)Z" } : Jvm.MethodName) prog_15_method_7_code (3 : Nat) (Option.some Jvm.ClassFile.FieldType.boolean)) ∈ TW := in_t6 115 (by decide +kernel) rfl
theorem tw_1387 : (Jvm.Cond.methodLink "FlumeOrdersModel" (210 : Nat) ({ cls := "FlumeOrdersModel", name := "notches", desc := "()V" } : Jvm.MethodName)) ∈ TW := in_t6 116 (by decide +kernel) rfl
theorem tw_1389 : (Jvm.Cond.instanceMethod ({ cls := "FlumeOrdersModel", name := "notches", desc := "()V" } : Jvm.MethodName)) ∈ TW := in_t6 118 (by decide +kernel) rfl
theorem tw_1390 : (Jvm.Cond.code ({ cls := "FlumeOrdersModel", name := "notches", desc := "()V" } : Jvm.MethodName) prog_15_method_28_code (2 : Nat) (Option.none : Option Jvm.ClassFile.FieldType)) ∈ TW := in_t6 119 (by decide +kernel) rfl
theorem tw_1394 : (Jvm.Cond.methodLink "FlumeOrdersModel" (199 : Nat) ({ cls := "FlumeOrdersModel", name := "act", desc := "()V" } : Jvm.MethodName)) ∈ TW := in_t6 123 (by decide +kernel) rfl
theorem tw_1396 : (Jvm.Cond.instanceMethod ({ cls := "FlumeOrdersModel", name := "act", desc := "()V" } : Jvm.MethodName)) ∈ TW := in_t6 125 (by decide +kernel) rfl
theorem tw_1397 : (Jvm.Cond.code ({ cls := "FlumeOrdersModel", name := "act", desc := "()V" } : Jvm.MethodName) prog_15_method_27_code (4 : Nat) (Option.none : Option Jvm.ClassFile.FieldType)) ∈ TW := in_t6 126 (by decide +kernel) rfl
theorem tw_1402 : (Jvm.Cond.methodLink "FlumeOrdersModel" (181 : Nat) ({ cls := "FlumeOrdersModel", name := "asks", desc := "()V" } : Jvm.MethodName)) ∈ TW := in_t6 131 (by decide +kernel) rfl
theorem tw_1404 : (Jvm.Cond.instanceMethod ({ cls := "FlumeOrdersModel", name := "asks", desc := "()V" } : Jvm.MethodName)) ∈ TW := in_t6 133 (by decide +kernel) rfl
theorem tw_1405 : (Jvm.Cond.code ({ cls := "FlumeOrdersModel", name := "asks", desc := "()V" } : Jvm.MethodName) prog_15_method_20_code (2 : Nat) (Option.none : Option Jvm.ClassFile.FieldType)) ∈ TW := in_t6 134 (by decide +kernel) rfl
theorem tw_1406 : (Jvm.Cond.methodLink "FlumeOrdersModel" (132 : Nat) ({ cls := "FlumeOrdersModel", name := "chipOf", desc := "(II)I" } : Jvm.MethodName)) ∈ TW := in_t6 135 (by decide +kernel) rfl
theorem tw_1408 : (Jvm.Cond.instanceMethod ({ cls := "FlumeOrdersModel", name := "chipOf", desc := "(II)I" } : Jvm.MethodName)) ∈ TW := in_t6 137 (by decide +kernel) rfl
theorem tw_1409 : (Jvm.Cond.code ({ cls := "FlumeOrdersModel", name := "chipOf", desc := "(II)I" } : Jvm.MethodName) prog_15_method_5_code (3 : Nat) (Option.some Jvm.ClassFile.FieldType.int)) ∈ TW := in_t6 138 (by decide +kernel) rfl
theorem tw_1411 : (Jvm.Cond.methodLink "FlumeOrdersModel" (163 : Nat) ({ cls := "FlumeOrdersModel", name := "some", desc := "()Z" } : Jvm.MethodName)) ∈ TW := in_t6 140 (by decide +kernel) rfl
theorem tw_1413 : (Jvm.Cond.instanceMethod ({ cls := "FlumeOrdersModel", name := "some", desc := "()Z" } : Jvm.MethodName)) ∈ TW := in_t6 142 (by decide +kernel) rfl
theorem tw_1414 : (Jvm.Cond.code ({ cls := "FlumeOrdersModel", name := "some", desc := "()Z" } : Jvm.MethodName) prog_15_method_26_code (3 : Nat) (Option.some Jvm.ClassFile.FieldType.boolean)) ∈ TW := in_t6 143 (by decide +kernel) rfl
theorem tw_1415 : (Jvm.Cond.methodLink "FlumeOrdersModel" (168 : Nat) ({ cls := "FlumeOrdersModel", name := "every", desc := "()Z" } : Jvm.MethodName)) ∈ TW := in_t6 144 (by decide +kernel) rfl
theorem tw_1417 : (Jvm.Cond.instanceMethod ({ cls := "FlumeOrdersModel", name := "every", desc := "()Z" } : Jvm.MethodName)) ∈ TW := in_t6 146 (by decide +kernel) rfl
theorem tw_1418 : (Jvm.Cond.code ({ cls := "FlumeOrdersModel", name := "every", desc := "()Z" } : Jvm.MethodName) prog_15_method_25_code (3 : Nat) (Option.some Jvm.ClassFile.FieldType.boolean)) ∈ TW := in_t6 147 (by decide +kernel) rfl
theorem tw_1419 : (Jvm.Cond.methodLink "FlumeOrdersModel" (160 : Nat) ({ cls := "FlumeOrdersModel", name := "atom", desc := "()Z" } : Jvm.MethodName)) ∈ TW := in_t6 148 (by decide +kernel) rfl
theorem tw_1421 : (Jvm.Cond.instanceMethod ({ cls := "FlumeOrdersModel", name := "atom", desc := "()Z" } : Jvm.MethodName)) ∈ TW := in_t6 150 (by decide +kernel) rfl
theorem tw_1422 : (Jvm.Cond.code ({ cls := "FlumeOrdersModel", name := "atom", desc := "()Z" } : Jvm.MethodName) prog_15_method_24_code (4 : Nat) (Option.some Jvm.ClassFile.FieldType.boolean)) ∈ TW := in_t6 151 (by decide +kernel) rfl
theorem tw_1424 : (Jvm.Cond.methodLink "FlumeOrdersModel" (157 : Nat) ({ cls := "FlumeOrdersModel", name := "plain", desc := "()Z" } : Jvm.MethodName)) ∈ TW := in_t6 153 (by decide +kernel) rfl
theorem tw_1426 : (Jvm.Cond.instanceMethod ({ cls := "FlumeOrdersModel", name := "plain", desc := "()Z" } : Jvm.MethodName)) ∈ TW := in_t6 155 (by decide +kernel) rfl
theorem tw_1427 : (Jvm.Cond.code ({ cls := "FlumeOrdersModel", name := "plain", desc := "()Z" } : Jvm.MethodName) prog_15_method_23_code (4 : Nat) (Option.some Jvm.ClassFile.FieldType.boolean)) ∈ TW := in_t6 156 (by decide +kernel) rfl
theorem tw_1428 : (Jvm.Cond.methodLink "FlumeOrdersModel" (148 : Nat) ({ cls := "FlumeOrdersModel", name := "isFrost", desc := "()Z" } : Jvm.MethodName)) ∈ TW := in_t6 157 (by decide +kernel) rfl
theorem tw_1430 : (Jvm.Cond.instanceMethod ({ cls := "FlumeOrdersModel", name := "isFrost", desc := "()Z" } : Jvm.MethodName)) ∈ TW := in_t6 159 (by decide +kernel) rfl
theorem tw_1431 : (Jvm.Cond.code ({ cls := "FlumeOrdersModel", name := "isFrost", desc := "()Z" } : Jvm.MethodName) prog_15_method_8_code (2 : Nat) (Option.some Jvm.ClassFile.FieldType.boolean)) ∈ TW := in_t6 160 (by decide +kernel) rfl
theorem tw_1432 : (Jvm.Cond.methodLink "FlumeOrdersModel" (152 : Nat) ({ cls := "FlumeOrdersModel", name := "sum", desc := "()I" } : Jvm.MethodName)) ∈ TW := in_t6 161 (by decide +kernel) rfl
theorem tw_1434 : (Jvm.Cond.instanceMethod ({ cls := "FlumeOrdersModel", name := "sum", desc := "()I" } : Jvm.MethodName)) ∈ TW := in_t6 163 (by decide +kernel) rfl
theorem tw_1435 : (Jvm.Cond.code ({ cls := "FlumeOrdersModel", name := "sum", desc := "()I" } : Jvm.MethodName) prog_15_method_22_code (2 : Nat) (Option.some Jvm.ClassFile.FieldType.int)) ∈ TW := in_t6 164 (by decide +kernel) rfl
theorem tw_1436 : (Jvm.Cond.methodLink "FlumeOrdersModel" (145 : Nat) ({ cls := "FlumeOrdersModel", name := "part", desc := "()I" } : Jvm.MethodName)) ∈ TW := in_t6 165 (by decide +kernel) rfl
theorem tw_1438 : (Jvm.Cond.instanceMethod ({ cls := "FlumeOrdersModel", name := "part", desc := "()I" } : Jvm.MethodName)) ∈ TW := in_t6 167 (by decide +kernel) rfl
theorem tw_1439 : (Jvm.Cond.code ({ cls := "FlumeOrdersModel", name := "part", desc := "()I" } : Jvm.MethodName) prog_15_method_21_code (2 : Nat) (Option.some Jvm.ClassFile.FieldType.int)) ∈ TW := in_t6 168 (by decide +kernel) rfl
theorem tw_1447 : (Jvm.Cond.methodLink "FlumeOrdersModel" (186 : Nat) ({ cls := "FlumeOrdersModel", name := "acts", desc := "(II)V" } : Jvm.MethodName)) ∈ TW := in_t6 176 (by decide +kernel) rfl
theorem tw_1449 : (Jvm.Cond.instanceMethod ({ cls := "FlumeOrdersModel", name := "acts", desc := "(II)V" } : Jvm.MethodName)) ∈ TW := in_t6 178 (by decide +kernel) rfl
theorem tw_1450 : (Jvm.Cond.code ({ cls := "FlumeOrdersModel", name := "acts", desc := "(II)V" } : Jvm.MethodName) prog_15_method_32_code (5 : Nat) (Option.none : Option Jvm.ClassFile.FieldType)) ∈ TW := in_t6 179 (by decide +kernel) rfl
theorem tw_1451 : (Jvm.Cond.methodLink "FlumeOrdersModel" (213 : Nat) ({ cls := "FlumeOrdersModel", name := "adds", desc := "(IIII)I" } : Jvm.MethodName)) ∈ TW := in_t6 180 (by decide +kernel) rfl
theorem tw_1453 : (Jvm.Cond.instanceMethod ({ cls := "FlumeOrdersModel", name := "adds", desc := "(IIII)I" } : Jvm.MethodName)) ∈ TW := in_t6 182 (by decide +kernel) rfl
theorem tw_1454 : (Jvm.Cond.code ({ cls := "FlumeOrdersModel", name := "adds", desc := "(IIII)I" } : Jvm.MethodName) prog_15_method_30_code (7 : Nat) (Option.some Jvm.ClassFile.FieldType.int)) ∈ TW := in_t6 183 (by decide +kernel) rfl
theorem tw_1455 : (Jvm.Cond.methodLink "FlumeOrdersModel" (202 : Nat) ({ cls := "FlumeOrdersModel", name := "sets", desc := "(III)V" } : Jvm.MethodName)) ∈ TW := in_t6 184 (by decide +kernel) rfl
theorem tw_1457 : (Jvm.Cond.instanceMethod ({ cls := "FlumeOrdersModel", name := "sets", desc := "(III)V" } : Jvm.MethodName)) ∈ TW := in_t6 186 (by decide +kernel) rfl
theorem tw_1458 : (Jvm.Cond.code ({ cls := "FlumeOrdersModel", name := "sets", desc := "(III)V" } : Jvm.MethodName) prog_15_method_6_code (4 : Nat) (Option.none : Option Jvm.ClassFile.FieldType)) ∈ TW := in_t6 187 (by decide +kernel) rfl
theorem tw_1459 : (Jvm.Cond.methodLink "FlumeOrdersLaw" (107 : Nat) ({ cls := "FlumeOrdersModel", name := "run", desc := "(I)I" } : Jvm.MethodName)) ∈ TW := in_t6 188 (by decide +kernel) rfl
theorem tw_1460 : (Jvm.Cond.instanceMethod ({ cls := "FlumeOrdersModel", name := "run", desc := "(I)I" } : Jvm.MethodName)) ∈ TW := in_t6 189 (by decide +kernel) rfl
theorem tw_1461 : (Jvm.Cond.selects "FlumeOrdersModel" ({ cls := "FlumeOrdersModel", name := "run", desc := "(I)I" } : Jvm.MethodName) ({ cls := "FlumeOrdersModel", name := "run", desc := "(I)I" } : Jvm.MethodName)) ∈ TW := in_t6 190 (by decide +kernel) rfl
theorem tw_1462 : (Jvm.Cond.code ({ cls := "FlumeOrdersModel", name := "run", desc := "(I)I" } : Jvm.MethodName) prog_15_method_40_code (4 : Nat) (Option.some Jvm.ClassFile.FieldType.int)) ∈ TW := in_t6 191 (by decide +kernel) rfl
theorem tw_1463 : (Jvm.Cond.methodLink "FlumeOrdersModel" (241 : Nat) ({ cls := "FlumeOrdersModel", name := "minute", desc := "()V" } : Jvm.MethodName)) ∈ TW := in_t6 192 (by decide +kernel) rfl
theorem tw_1465 : (Jvm.Cond.instanceMethod ({ cls := "FlumeOrdersModel", name := "minute", desc := "()V" } : Jvm.MethodName)) ∈ TW := in_t6 194 (by decide +kernel) rfl
theorem tw_1466 : (Jvm.Cond.code ({ cls := "FlumeOrdersModel", name := "minute", desc := "()V" } : Jvm.MethodName) prog_15_method_39_code (3 : Nat) (Option.none : Option Jvm.ClassFile.FieldType)) ∈ TW := in_t6 195 (by decide +kernel) rfl
theorem tw_1467 : (Jvm.Cond.methodLink "FlumeOrdersModel" (235 : Nat) ({ cls := "FlumeOrdersModel", name := "comes", desc := "(II)V" } : Jvm.MethodName)) ∈ TW := in_t6 196 (by decide +kernel) rfl
theorem tw_1469 : (Jvm.Cond.instanceMethod ({ cls := "FlumeOrdersModel", name := "comes", desc := "(II)V" } : Jvm.MethodName)) ∈ TW := in_t6 198 (by decide +kernel) rfl
theorem tw_1470 : (Jvm.Cond.code ({ cls := "FlumeOrdersModel", name := "comes", desc := "(II)V" } : Jvm.MethodName) prog_15_method_34_code (5 : Nat) (Option.none : Option Jvm.ClassFile.FieldType)) ∈ TW := in_t6 199 (by decide +kernel) rfl
theorem tw_1471 : (Jvm.Cond.methodLink "FlumeOrdersModel" (217 : Nat) ({ cls := "FlumeOrdersModel", name := "reads", desc := "(IZ)V" } : Jvm.MethodName)) ∈ TW := in_t6 200 (by decide +kernel) rfl
theorem tw_1473 : (Jvm.Cond.instanceMethod ({ cls := "FlumeOrdersModel", name := "reads", desc := "(IZ)V" } : Jvm.MethodName)) ∈ TW := in_t6 202 (by decide +kernel) rfl
theorem tw_1474 : (Jvm.Cond.code ({ cls := "FlumeOrdersModel", name := "reads", desc := "(IZ)V" } : Jvm.MethodName) prog_15_method_33_code (4 : Nat) (Option.none : Option Jvm.ClassFile.FieldType)) ∈ TW := in_t6 203 (by decide +kernel) rfl
theorem tw_1475 : (Jvm.Cond.methodLink "FlumeOrdersModel" (238 : Nat) ({ cls := "FlumeOrdersModel", name := "enters", desc := "(I)V" } : Jvm.MethodName)) ∈ TW := in_t6 204 (by decide +kernel) rfl
theorem tw_1477 : (Jvm.Cond.instanceMethod ({ cls := "FlumeOrdersModel", name := "enters", desc := "(I)V" } : Jvm.MethodName)) ∈ TW := in_t6 206 (by decide +kernel) rfl
theorem tw_1478 : (Jvm.Cond.code ({ cls := "FlumeOrdersModel", name := "enters", desc := "(I)V" } : Jvm.MethodName) prog_15_method_38_code (3 : Nat) (Option.none : Option Jvm.ClassFile.FieldType)) ∈ TW := in_t6 207 (by decide +kernel) rfl
theorem tw_1479 : (Jvm.Cond.methodLink "FlumeOrdersModel" (221 : Nat) ({ cls := "FlumeOrdersModel", name := "nextAt", desc := "(I)I" } : Jvm.MethodName)) ∈ TW := in_t6 208 (by decide +kernel) rfl
theorem tw_1481 : (Jvm.Cond.instanceMethod ({ cls := "FlumeOrdersModel", name := "nextAt", desc := "(I)I" } : Jvm.MethodName)) ∈ TW := in_t6 210 (by decide +kernel) rfl
theorem tw_1482 : (Jvm.Cond.code ({ cls := "FlumeOrdersModel", name := "nextAt", desc := "(I)I" } : Jvm.MethodName) prog_15_method_36_code (4 : Nat) (Option.some Jvm.ClassFile.FieldType.int)) ∈ TW := in_t6 211 (by decide +kernel) rfl
theorem tw_1483 : (Jvm.Cond.methodLink "FlumeOrdersModel" (224 : Nat) ({ cls := "FlumeOrdersModel", name := "reachOf", desc := "(II)I" } : Jvm.MethodName)) ∈ TW := in_t6 212 (by decide +kernel) rfl
theorem tw_1485 : (Jvm.Cond.instanceMethod ({ cls := "FlumeOrdersModel", name := "reachOf", desc := "(II)I" } : Jvm.MethodName)) ∈ TW := in_t6 214 (by decide +kernel) rfl
theorem tw_1486 : (Jvm.Cond.code ({ cls := "FlumeOrdersModel", name := "reachOf", desc := "(II)I" } : Jvm.MethodName) prog_15_method_4_code (3 : Nat) (Option.some Jvm.ClassFile.FieldType.int)) ∈ TW := in_t6 215 (by decide +kernel) rfl
theorem tw_1487 : (Jvm.Cond.methodLink "FlumeOrdersModel" (227 : Nat) ({ cls := "FlumeOrdersModel", name := "inReach", desc := "(I)I" } : Jvm.MethodName)) ∈ TW := in_t6 216 (by decide +kernel) rfl
theorem tw_1489 : (Jvm.Cond.instanceMethod ({ cls := "FlumeOrdersModel", name := "inReach", desc := "(I)I" } : Jvm.MethodName)) ∈ TW := in_t6 218 (by decide +kernel) rfl
theorem tw_1490 : (Jvm.Cond.code ({ cls := "FlumeOrdersModel", name := "inReach", desc := "(I)I" } : Jvm.MethodName) prog_15_method_35_code (4 : Nat) (Option.some Jvm.ClassFile.FieldType.int)) ∈ TW := in_t6 219 (by decide +kernel) rfl
theorem tw_1491 : (Jvm.Cond.methodLink "FlumeOrdersModel" (230 : Nat) ({ cls := "FlumeOrdersModel", name := "timeOf", desc := "(III)I" } : Jvm.MethodName)) ∈ TW := in_t6 220 (by decide +kernel) rfl
theorem tw_1492 : (Jvm.Cond.static ({ cls := "FlumeOrdersModel", name := "timeOf", desc := "(III)I" } : Jvm.MethodName)) ∈ TW := in_t6 221 (by decide +kernel) rfl
theorem tw_1493 : (Jvm.Cond.code ({ cls := "FlumeOrdersModel", name := "timeOf", desc := "(III)I" } : Jvm.MethodName) prog_15_method_37_code (3 : Nat) (Option.some Jvm.ClassFile.FieldType.int)) ∈ TW := in_t6 222 (by decide +kernel) rfl
theorem tw_1494 : (Jvm.Cond.constant "FlumeOrdersModel" (234 : Nat) (1103515245 : Int32)) ∈ TW := in_t6 223 (by decide +kernel) rfl
theorem tw_1495 : (Jvm.Cond.methodLink "FlumeOrdersLaw" (110 : Nat) ({ cls := "FlumeOrdersModel", name := "pole", desc := "(I)I" } : Jvm.MethodName)) ∈ TW := in_t6 224 (by decide +kernel) rfl
theorem tw_1496 : (Jvm.Cond.instanceMethod ({ cls := "FlumeOrdersModel", name := "pole", desc := "(I)I" } : Jvm.MethodName)) ∈ TW := in_t6 225 (by decide +kernel) rfl
theorem tw_1497 : (Jvm.Cond.selects "FlumeOrdersModel" ({ cls := "FlumeOrdersModel", name := "pole", desc := "(I)I" } : Jvm.MethodName) ({ cls := "FlumeOrdersModel", name := "pole", desc := "(I)I" } : Jvm.MethodName)) ∈ TW := in_t6 226 (by decide +kernel) rfl
theorem tw_1498 : (Jvm.Cond.code ({ cls := "FlumeOrdersModel", name := "pole", desc := "(I)I" } : Jvm.MethodName) prog_15_method_41_code (4 : Nat) (Option.some Jvm.ClassFile.FieldType.int)) ∈ TW := in_t6 227 (by decide +kernel) rfl
theorem tw_1499 : (Jvm.Cond.methodLink "FlumeOrdersLaw" (113 : Nat) ({ cls := "FlumeOrdersModel", name := "water", desc := "(I)I" } : Jvm.MethodName)) ∈ TW := in_t6 228 (by decide +kernel) rfl
theorem tw_1500 : (Jvm.Cond.instanceMethod ({ cls := "FlumeOrdersModel", name := "water", desc := "(I)I" } : Jvm.MethodName)) ∈ TW := in_t6 229 (by decide +kernel) rfl
theorem tw_1501 : (Jvm.Cond.selects "FlumeOrdersModel" ({ cls := "FlumeOrdersModel", name := "water", desc := "(I)I" } : Jvm.MethodName) ({ cls := "FlumeOrdersModel", name := "water", desc := "(I)I" } : Jvm.MethodName)) ∈ TW := in_t6 230 (by decide +kernel) rfl
theorem tw_1502 : (Jvm.Cond.code ({ cls := "FlumeOrdersModel", name := "water", desc := "(I)I" } : Jvm.MethodName) prog_15_method_42_code (3 : Nat) (Option.some Jvm.ClassFile.FieldType.int)) ∈ TW := in_t6 231 (by decide +kernel) rfl
theorem tw_1503 : (Jvm.Cond.methodLink "FlumeOrdersLaw" (116 : Nat) ({ cls := "FlumeOrdersModel", name := "look", desc := "(II)I" } : Jvm.MethodName)) ∈ TW := in_t6 232 (by decide +kernel) rfl
theorem tw_1504 : (Jvm.Cond.instanceMethod ({ cls := "FlumeOrdersModel", name := "look", desc := "(II)I" } : Jvm.MethodName)) ∈ TW := in_t6 233 (by decide +kernel) rfl
theorem tw_1505 : (Jvm.Cond.selects "FlumeOrdersModel" ({ cls := "FlumeOrdersModel", name := "look", desc := "(II)I" } : Jvm.MethodName) ({ cls := "FlumeOrdersModel", name := "look", desc := "(II)I" } : Jvm.MethodName)) ∈ TW := in_t6 234 (by decide +kernel) rfl
theorem tw_1506 : (Jvm.Cond.code ({ cls := "FlumeOrdersModel", name := "look", desc := "(II)I" } : Jvm.MethodName) prog_15_method_43_code (3 : Nat) (Option.some Jvm.ClassFile.FieldType.int)) ∈ TW := in_t6 235 (by decide +kernel) rfl
theorem tw_1507 : (Jvm.Cond.methodLink "FlumeOrdersLaw" (119 : Nat) ({ cls := "FlumeOrdersModel", name := "camp", desc := "(II)I" } : Jvm.MethodName)) ∈ TW := in_t6 236 (by decide +kernel) rfl
theorem tw_1508 : (Jvm.Cond.instanceMethod ({ cls := "FlumeOrdersModel", name := "camp", desc := "(II)I" } : Jvm.MethodName)) ∈ TW := in_t6 237 (by decide +kernel) rfl
theorem tw_1509 : (Jvm.Cond.selects "FlumeOrdersModel" ({ cls := "FlumeOrdersModel", name := "camp", desc := "(II)I" } : Jvm.MethodName) ({ cls := "FlumeOrdersModel", name := "camp", desc := "(II)I" } : Jvm.MethodName)) ∈ TW := in_t6 238 (by decide +kernel) rfl
theorem tw_1510 : (Jvm.Cond.code ({ cls := "FlumeOrdersModel", name := "camp", desc := "(II)I" } : Jvm.MethodName) prog_15_method_45_code (3 : Nat) (Option.some Jvm.ClassFile.FieldType.int)) ∈ TW := in_t6 239 (by decide +kernel) rfl
theorem tw_1511 : (Jvm.Cond.methodLink "FlumeOrdersModel" (244 : Nat) ({ cls := "FlumeOrdersModel", name := "isCamp", desc := "(I)Z" } : Jvm.MethodName)) ∈ TW := in_t7 0 (by decide +kernel) rfl
theorem tw_1513 : (Jvm.Cond.instanceMethod ({ cls := "FlumeOrdersModel", name := "isCamp", desc := "(I)Z" } : Jvm.MethodName)) ∈ TW := in_t7 2 (by decide +kernel) rfl
theorem tw_1514 : (Jvm.Cond.code ({ cls := "FlumeOrdersModel", name := "isCamp", desc := "(I)Z" } : Jvm.MethodName) prog_15_method_44_code (2 : Nat) (Option.some Jvm.ClassFile.FieldType.boolean)) ∈ TW := in_t7 3 (by decide +kernel) rfl
theorem tw_1515 : (Jvm.Cond.methodLink "FlumeOrdersLaw" (122 : Nat) ({ cls := "FlumeOrdersModel", name := "reach", desc := "(II)I" } : Jvm.MethodName)) ∈ TW := in_t7 4 (by decide +kernel) rfl
theorem tw_1516 : (Jvm.Cond.instanceMethod ({ cls := "FlumeOrdersModel", name := "reach", desc := "(II)I" } : Jvm.MethodName)) ∈ TW := in_t7 5 (by decide +kernel) rfl
theorem tw_1517 : (Jvm.Cond.selects "FlumeOrdersModel" ({ cls := "FlumeOrdersModel", name := "reach", desc := "(II)I" } : Jvm.MethodName) ({ cls := "FlumeOrdersModel", name := "reach", desc := "(II)I" } : Jvm.MethodName)) ∈ TW := in_t7 6 (by decide +kernel) rfl
theorem tw_1518 : (Jvm.Cond.code ({ cls := "FlumeOrdersModel", name := "reach", desc := "(II)I" } : Jvm.MethodName) prog_15_method_46_code (3 : Nat) (Option.some Jvm.ClassFile.FieldType.int)) ∈ TW := in_t7 7 (by decide +kernel) rfl
theorem tw_1519 : (Jvm.Cond.methodLink "FlumeOrdersLaw" (126 : Nat) ({ cls := "FlumeOrdersModel", name := "out", desc := "(I)I" } : Jvm.MethodName)) ∈ TW := in_t7 8 (by decide +kernel) rfl
theorem tw_1520 : (Jvm.Cond.instanceMethod ({ cls := "FlumeOrdersModel", name := "out", desc := "(I)I" } : Jvm.MethodName)) ∈ TW := in_t7 9 (by decide +kernel) rfl
theorem tw_1521 : (Jvm.Cond.selects "FlumeOrdersModel" ({ cls := "FlumeOrdersModel", name := "out", desc := "(I)I" } : Jvm.MethodName) ({ cls := "FlumeOrdersModel", name := "out", desc := "(I)I" } : Jvm.MethodName)) ∈ TW := in_t7 10 (by decide +kernel) rfl
theorem tw_1522 : (Jvm.Cond.code ({ cls := "FlumeOrdersModel", name := "out", desc := "(I)I" } : Jvm.MethodName) prog_15_method_47_code (2 : Nat) (Option.some Jvm.ClassFile.FieldType.int)) ∈ TW := in_t7 11 (by decide +kernel) rfl
theorem tw_1523 : (Jvm.Cond.methodLink "FlumeOrdersLaw" (130 : Nat) ({ cls := "FlumeOrdersModel", name := "time", desc := "(IIII)I" } : Jvm.MethodName)) ∈ TW := in_t7 12 (by decide +kernel) rfl
theorem tw_1524 : (Jvm.Cond.instanceMethod ({ cls := "FlumeOrdersModel", name := "time", desc := "(IIII)I" } : Jvm.MethodName)) ∈ TW := in_t7 13 (by decide +kernel) rfl
theorem tw_1525 : (Jvm.Cond.selects "FlumeOrdersModel" ({ cls := "FlumeOrdersModel", name := "time", desc := "(IIII)I" } : Jvm.MethodName) ({ cls := "FlumeOrdersModel", name := "time", desc := "(IIII)I" } : Jvm.MethodName)) ∈ TW := in_t7 14 (by decide +kernel) rfl
theorem tw_1526 : (Jvm.Cond.code ({ cls := "FlumeOrdersModel", name := "time", desc := "(IIII)I" } : Jvm.MethodName) prog_15_method_50_code (5 : Nat) (Option.some Jvm.ClassFile.FieldType.int)) ∈ TW := in_t7 15 (by decide +kernel) rfl
theorem tw_1527 : (Jvm.Cond.methodLink "FlumeOrdersModel" (247 : Nat) ({ cls := "FlumeOrdersModel", name := "twoStations", desc := "(II)I" } : Jvm.MethodName)) ∈ TW := in_t7 16 (by decide +kernel) rfl
theorem tw_1529 : (Jvm.Cond.instanceMethod ({ cls := "FlumeOrdersModel", name := "twoStations", desc := "(II)I" } : Jvm.MethodName)) ∈ TW := in_t7 18 (by decide +kernel) rfl
theorem tw_1530 : (Jvm.Cond.code ({ cls := "FlumeOrdersModel", name := "twoStations", desc := "(II)I" } : Jvm.MethodName) prog_15_method_49_code (3 : Nat) (Option.some Jvm.ClassFile.FieldType.int)) ∈ TW := in_t7 19 (by decide +kernel) rfl
theorem tw_1531 : (Jvm.Cond.methodLink "FlumeOrdersModel" (250 : Nat) ({ cls := "FlumeOrdersModel", name := "wayOf", desc := "(IIII)I" } : Jvm.MethodName)) ∈ TW := in_t7 20 (by decide +kernel) rfl
theorem tw_1533 : (Jvm.Cond.instanceMethod ({ cls := "FlumeOrdersModel", name := "wayOf", desc := "(IIII)I" } : Jvm.MethodName)) ∈ TW := in_t7 22 (by decide +kernel) rfl
theorem tw_1534 : (Jvm.Cond.code ({ cls := "FlumeOrdersModel", name := "wayOf", desc := "(IIII)I" } : Jvm.MethodName) prog_15_method_48_code (7 : Nat) (Option.some Jvm.ClassFile.FieldType.int)) ∈ TW := in_t7 23 (by decide +kernel) rfl
theorem tw_1535 : (Jvm.Cond.methodLink "FlumeOrdersLaw" (134 : Nat) ({ cls := "FlumeOrdersModel", name := "waits", desc := "(IIIII)I" } : Jvm.MethodName)) ∈ TW := in_t7 24 (by decide +kernel) rfl
theorem tw_1536 : (Jvm.Cond.instanceMethod ({ cls := "FlumeOrdersModel", name := "waits", desc := "(IIIII)I" } : Jvm.MethodName)) ∈ TW := in_t7 25 (by decide +kernel) rfl
theorem tw_1537 : (Jvm.Cond.selects "FlumeOrdersModel" ({ cls := "FlumeOrdersModel", name := "waits", desc := "(IIIII)I" } : Jvm.MethodName) ({ cls := "FlumeOrdersModel", name := "waits", desc := "(IIIII)I" } : Jvm.MethodName)) ∈ TW := in_t7 26 (by decide +kernel) rfl
theorem tw_1538 : (Jvm.Cond.code ({ cls := "FlumeOrdersModel", name := "waits", desc := "(IIIII)I" } : Jvm.MethodName) prog_15_method_51_code (9 : Nat) (Option.some Jvm.ClassFile.FieldType.int)) ∈ TW := in_t7 27 (by decide +kernel) rfl
theorem tw_1539 : (Jvm.Cond.methodLink "FlumeOrdersLaw" (137 : Nat) ({ cls := "FlumeOrdersModel", name := "order", desc := "(II)I" } : Jvm.MethodName)) ∈ TW := in_t7 28 (by decide +kernel) rfl
theorem tw_1540 : (Jvm.Cond.instanceMethod ({ cls := "FlumeOrdersModel", name := "order", desc := "(II)I" } : Jvm.MethodName)) ∈ TW := in_t7 29 (by decide +kernel) rfl
theorem tw_1541 : (Jvm.Cond.selects "FlumeOrdersModel" ({ cls := "FlumeOrdersModel", name := "order", desc := "(II)I" } : Jvm.MethodName) ({ cls := "FlumeOrdersModel", name := "order", desc := "(II)I" } : Jvm.MethodName)) ∈ TW := in_t7 30 (by decide +kernel) rfl
theorem tw_1542 : (Jvm.Cond.code ({ cls := "FlumeOrdersModel", name := "order", desc := "(II)I" } : Jvm.MethodName) prog_15_method_52_code (3 : Nat) (Option.some Jvm.ClassFile.FieldType.int)) ∈ TW := in_t7 31 (by decide +kernel) rfl
theorem tw_1543 : (Jvm.Cond.methodLink "FlumeOrdersLaw" (141 : Nat) ({ cls := "FlumeOrdersModel", name := "ahead", desc := "(III)I" } : Jvm.MethodName)) ∈ TW := in_t7 32 (by decide +kernel) rfl
theorem tw_1544 : (Jvm.Cond.instanceMethod ({ cls := "FlumeOrdersModel", name := "ahead", desc := "(III)I" } : Jvm.MethodName)) ∈ TW := in_t7 33 (by decide +kernel) rfl
theorem tw_1545 : (Jvm.Cond.selects "FlumeOrdersModel" ({ cls := "FlumeOrdersModel", name := "ahead", desc := "(III)I" } : Jvm.MethodName) ({ cls := "FlumeOrdersModel", name := "ahead", desc := "(III)I" } : Jvm.MethodName)) ∈ TW := in_t7 34 (by decide +kernel) rfl
theorem tw_1546 : (Jvm.Cond.code ({ cls := "FlumeOrdersModel", name := "ahead", desc := "(III)I" } : Jvm.MethodName) prog_15_method_53_code (5 : Nat) (Option.some Jvm.ClassFile.FieldType.int)) ∈ TW := in_t7 35 (by decide +kernel) rfl
theorem tw_1547 : (Jvm.Cond.methodLink "FlumeOrdersLaw" (144 : Nat) ({ cls := "FlumeOrdersModel", name := "plan", desc := "(I)I" } : Jvm.MethodName)) ∈ TW := in_t7 36 (by decide +kernel) rfl
theorem tw_1548 : (Jvm.Cond.instanceMethod ({ cls := "FlumeOrdersModel", name := "plan", desc := "(I)I" } : Jvm.MethodName)) ∈ TW := in_t7 37 (by decide +kernel) rfl
theorem tw_1549 : (Jvm.Cond.selects "FlumeOrdersModel" ({ cls := "FlumeOrdersModel", name := "plan", desc := "(I)I" } : Jvm.MethodName) ({ cls := "FlumeOrdersModel", name := "plan", desc := "(I)I" } : Jvm.MethodName)) ∈ TW := in_t7 38 (by decide +kernel) rfl
theorem tw_1550 : (Jvm.Cond.code ({ cls := "FlumeOrdersModel", name := "plan", desc := "(I)I" } : Jvm.MethodName) prog_15_method_55_code (8 : Nat) (Option.some Jvm.ClassFile.FieldType.int)) ∈ TW := in_t7 39 (by decide +kernel) rfl
theorem tw_1551 : (Jvm.Cond.methodLink "FlumeOrdersModel" (253 : Nat) ({ cls := "FlumeOrdersModel", name := "orderTime", desc := "(I)I" } : Jvm.MethodName)) ∈ TW := in_t7 40 (by decide +kernel) rfl
theorem tw_1553 : (Jvm.Cond.instanceMethod ({ cls := "FlumeOrdersModel", name := "orderTime", desc := "(I)I" } : Jvm.MethodName)) ∈ TW := in_t7 42 (by decide +kernel) rfl
theorem tw_1554 : (Jvm.Cond.code ({ cls := "FlumeOrdersModel", name := "orderTime", desc := "(I)I" } : Jvm.MethodName) prog_15_method_54_code (2 : Nat) (Option.some Jvm.ClassFile.FieldType.int)) ∈ TW := in_t7 43 (by decide +kernel) rfl
theorem tw_1555 : (Jvm.Cond.methodLink "FlumeOrdersLaw" (147 : Nat) ({ cls := "FlumeOrdersModel", name := "chance", desc := "(II)I" } : Jvm.MethodName)) ∈ TW := in_t7 44 (by decide +kernel) rfl
theorem tw_1556 : (Jvm.Cond.instanceMethod ({ cls := "FlumeOrdersModel", name := "chance", desc := "(II)I" } : Jvm.MethodName)) ∈ TW := in_t7 45 (by decide +kernel) rfl
theorem tw_1557 : (Jvm.Cond.selects "FlumeOrdersModel" ({ cls := "FlumeOrdersModel", name := "chance", desc := "(II)I" } : Jvm.MethodName) ({ cls := "FlumeOrdersModel", name := "chance", desc := "(II)I" } : Jvm.MethodName)) ∈ TW := in_t7 46 (by decide +kernel) rfl
theorem tw_1558 : (Jvm.Cond.code ({ cls := "FlumeOrdersModel", name := "chance", desc := "(II)I" } : Jvm.MethodName) prog_15_method_57_code (3 : Nat) (Option.some Jvm.ClassFile.FieldType.int)) ∈ TW := in_t7 47 (by decide +kernel) rfl
theorem tw_1559 : (Jvm.Cond.methodLink "FlumeOrdersModel" (260 : Nat) ({ cls := "FlumeOrdersModel", name := "chanceOf", desc := "(II)I" } : Jvm.MethodName)) ∈ TW := in_t7 48 (by decide +kernel) rfl
theorem tw_1561 : (Jvm.Cond.instanceMethod ({ cls := "FlumeOrdersModel", name := "chanceOf", desc := "(II)I" } : Jvm.MethodName)) ∈ TW := in_t7 50 (by decide +kernel) rfl
theorem tw_1562 : (Jvm.Cond.code ({ cls := "FlumeOrdersModel", name := "chanceOf", desc := "(II)I" } : Jvm.MethodName) prog_15_method_56_code (6 : Nat) (Option.some Jvm.ClassFile.FieldType.int)) ∈ TW := in_t7 51 (by decide +kernel) rfl
theorem tw_1563 : (Jvm.Cond.constantLong "FlumeOrdersModel" (256 : Nat) (1000000000 : Int64)) ∈ TW := in_t7 52 (by decide +kernel) rfl
theorem tw_1564 : (Jvm.Cond.constantLong "FlumeOrdersModel" (258 : Nat) (100 : Int64)) ∈ TW := in_t7 53 (by decide +kernel) rfl
theorem tw_1565 : (Jvm.Cond.methodLink "FlumeOrdersLaw" (150 : Nat) ({ cls := "FlumeOrdersModel", name := "repeats", desc := "(III)I" } : Jvm.MethodName)) ∈ TW := in_t7 54 (by decide +kernel) rfl
theorem tw_1566 : (Jvm.Cond.instanceMethod ({ cls := "FlumeOrdersModel", name := "repeats", desc := "(III)I" } : Jvm.MethodName)) ∈ TW := in_t7 55 (by decide +kernel) rfl
theorem tw_1567 : (Jvm.Cond.selects "FlumeOrdersModel" ({ cls := "FlumeOrdersModel", name := "repeats", desc := "(III)I" } : Jvm.MethodName) ({ cls := "FlumeOrdersModel", name := "repeats", desc := "(III)I" } : Jvm.MethodName)) ∈ TW := in_t7 56 (by decide +kernel) rfl
theorem tw_1568 : (Jvm.Cond.code ({ cls := "FlumeOrdersModel", name := "repeats", desc := "(III)I" } : Jvm.MethodName) prog_15_method_58_code (9 : Nat) (Option.some Jvm.ClassFile.FieldType.int)) ∈ TW := in_t7 57 (by decide +kernel) rfl
theorem tw_1569 : (Jvm.Cond.constant "FlumeOrdersModel" (263 : Nat) (1000000 : Int32)) ∈ TW := in_t7 58 (by decide +kernel) rfl
theorem tw_1570 : (Jvm.Cond.constant "FlumeOrdersModel" (264 : Nat) (1000000000 : Int32)) ∈ TW := in_t7 59 (by decide +kernel) rfl
theorem tw_1571 : (Jvm.Cond.constantLong "FlumeOrdersModel" (265 : Nat) (1000 : Int64)) ∈ TW := in_t7 60 (by decide +kernel) rfl
theorem tw_1572 : (Jvm.Cond.methodLink "FlumeOrdersLaw" (153 : Nat) ({ cls := "FlumeOrdersModel", name := "fits", desc := "(I)I" } : Jvm.MethodName)) ∈ TW := in_t7 61 (by decide +kernel) rfl
theorem tw_1573 : (Jvm.Cond.instanceMethod ({ cls := "FlumeOrdersModel", name := "fits", desc := "(I)I" } : Jvm.MethodName)) ∈ TW := in_t7 62 (by decide +kernel) rfl
theorem tw_1574 : (Jvm.Cond.selects "FlumeOrdersModel" ({ cls := "FlumeOrdersModel", name := "fits", desc := "(I)I" } : Jvm.MethodName) ({ cls := "FlumeOrdersModel", name := "fits", desc := "(I)I" } : Jvm.MethodName)) ∈ TW := in_t7 63 (by decide +kernel) rfl
theorem tw_1575 : (Jvm.Cond.code ({ cls := "FlumeOrdersModel", name := "fits", desc := "(I)I" } : Jvm.MethodName) prog_15_method_61_code (5 : Nat) (Option.some Jvm.ClassFile.FieldType.int)) ∈ TW := in_t7 64 (by decide +kernel) rfl
theorem tw_1576 : (Jvm.Cond.methodLink "FlumeOrdersModel" (276 : Nat) ({ cls := "FlumeOrdersModel", name := "tries", desc := "(II)V" } : Jvm.MethodName)) ∈ TW := in_t7 65 (by decide +kernel) rfl
theorem tw_1578 : (Jvm.Cond.instanceMethod ({ cls := "FlumeOrdersModel", name := "tries", desc := "(II)V" } : Jvm.MethodName)) ∈ TW := in_t7 67 (by decide +kernel) rfl
theorem tw_1579 : (Jvm.Cond.code ({ cls := "FlumeOrdersModel", name := "tries", desc := "(II)V" } : Jvm.MethodName) prog_15_method_60_code (5 : Nat) (Option.none : Option Jvm.ClassFile.FieldType)) ∈ TW := in_t7 68 (by decide +kernel) rfl
theorem tw_1580 : (Jvm.Cond.methodLink "FlumeOrdersModel" (270 : Nat) ({ cls := "FlumeOrdersModel", name := "comesSo", desc := "()Z" } : Jvm.MethodName)) ∈ TW := in_t7 69 (by decide +kernel) rfl
theorem tw_1582 : (Jvm.Cond.instanceMethod ({ cls := "FlumeOrdersModel", name := "comesSo", desc := "()Z" } : Jvm.MethodName)) ∈ TW := in_t7 71 (by decide +kernel) rfl
theorem tw_1583 : (Jvm.Cond.code ({ cls := "FlumeOrdersModel", name := "comesSo", desc := "()Z" } : Jvm.MethodName) prog_15_method_59_code (7 : Nat) (Option.some Jvm.ClassFile.FieldType.boolean)) ∈ TW := in_t7 72 (by decide +kernel) rfl
theorem tw_1584 : (Jvm.Cond.methodLink "FlumeOrdersLaw" (157 : Nat) ({ cls := "FlumeOrdersModel", name := "test", desc := "(I)I" } : Jvm.MethodName)) ∈ TW := in_t7 73 (by decide +kernel) rfl
theorem tw_1585 : (Jvm.Cond.instanceMethod ({ cls := "FlumeOrdersModel", name := "test", desc := "(I)I" } : Jvm.MethodName)) ∈ TW := in_t7 74 (by decide +kernel) rfl
theorem tw_1586 : (Jvm.Cond.selects "FlumeOrdersModel" ({ cls := "FlumeOrdersModel", name := "test", desc := "(I)I" } : Jvm.MethodName) ({ cls := "FlumeOrdersModel", name := "test", desc := "(I)I" } : Jvm.MethodName)) ∈ TW := in_t7 75 (by decide +kernel) rfl
theorem tw_1587 : (Jvm.Cond.code ({ cls := "FlumeOrdersModel", name := "test", desc := "(I)I" } : Jvm.MethodName) prog_15_method_62_code (9 : Nat) (Option.some Jvm.ClassFile.FieldType.int)) ∈ TW := in_t7 76 (by decide +kernel) rfl
theorem tw_1588 : (Jvm.Cond.methodLink "FlumeOrdersLaw" (160 : Nat) ({ cls := "FlumeOrdersModel", name := "later", desc := "(II)I" } : Jvm.MethodName)) ∈ TW := in_t7 77 (by decide +kernel) rfl
theorem tw_1589 : (Jvm.Cond.instanceMethod ({ cls := "FlumeOrdersModel", name := "later", desc := "(II)I" } : Jvm.MethodName)) ∈ TW := in_t7 78 (by decide +kernel) rfl
theorem tw_1590 : (Jvm.Cond.selects "FlumeOrdersModel" ({ cls := "FlumeOrdersModel", name := "later", desc := "(II)I" } : Jvm.MethodName) ({ cls := "FlumeOrdersModel", name := "later", desc := "(II)I" } : Jvm.MethodName)) ∈ TW := in_t7 79 (by decide +kernel) rfl
theorem tw_1591 : (Jvm.Cond.code ({ cls := "FlumeOrdersModel", name := "later", desc := "(II)I" } : Jvm.MethodName) prog_15_method_63_code (5 : Nat) (Option.some Jvm.ClassFile.FieldType.int)) ∈ TW := in_t7 80 (by decide +kernel) rfl
theorem tw_1592 : (Jvm.Cond.methodLink "FlumeOrdersLaw" (164 : Nat) ({ cls := "FlumeOrdersModel", name := "image", desc := "()V" } : Jvm.MethodName)) ∈ TW := in_t7 81 (by decide +kernel) rfl
theorem tw_1593 : (Jvm.Cond.instanceMethod ({ cls := "FlumeOrdersModel", name := "image", desc := "()V" } : Jvm.MethodName)) ∈ TW := in_t7 82 (by decide +kernel) rfl
theorem tw_1594 : (Jvm.Cond.selects "FlumeOrdersModel" ({ cls := "FlumeOrdersModel", name := "image", desc := "()V" } : Jvm.MethodName) ({ cls := "FlumeOrdersModel", name := "image", desc := "()V" } : Jvm.MethodName)) ∈ TW := in_t7 83 (by decide +kernel) rfl
theorem tw_1595 : (Jvm.Cond.code ({ cls := "FlumeOrdersModel", name := "image", desc := "()V" } : Jvm.MethodName) prog_15_method_64_code (2 : Nat) (Option.none : Option Jvm.ClassFile.FieldType)) ∈ TW := in_t7 84 (by decide +kernel) rfl
theorem tw_1596 : (Jvm.Cond.methodLink "FlumeOrdersLaw" (169 : Nat) ({ cls := "FlumeOrdersModel", name := "back", desc := "()Z" } : Jvm.MethodName)) ∈ TW := in_t7 85 (by decide +kernel) rfl
theorem tw_1597 : (Jvm.Cond.instanceMethod ({ cls := "FlumeOrdersModel", name := "back", desc := "()Z" } : Jvm.MethodName)) ∈ TW := in_t7 86 (by decide +kernel) rfl
theorem tw_1598 : (Jvm.Cond.selects "FlumeOrdersModel" ({ cls := "FlumeOrdersModel", name := "back", desc := "()Z" } : Jvm.MethodName) ({ cls := "FlumeOrdersModel", name := "back", desc := "()Z" } : Jvm.MethodName)) ∈ TW := in_t7 87 (by decide +kernel) rfl
theorem tw_1599 : (Jvm.Cond.code ({ cls := "FlumeOrdersModel", name := "back", desc := "()Z" } : Jvm.MethodName) prog_15_method_65_code (2 : Nat) (Option.some Jvm.ClassFile.FieldType.boolean)) ∈ TW := in_t7 88 (by decide +kernel) rfl
theorem tw_1600 : (Jvm.Cond.methodLink "FlumeOrdersLaw" (173 : Nat) ({ cls := "FlumeOrdersModel", name := "count", desc := "(I)I" } : Jvm.MethodName)) ∈ TW := in_t7 89 (by decide +kernel) rfl
theorem tw_1601 : (Jvm.Cond.instanceMethod ({ cls := "FlumeOrdersModel", name := "count", desc := "(I)I" } : Jvm.MethodName)) ∈ TW := in_t7 90 (by decide +kernel) rfl
theorem tw_1602 : (Jvm.Cond.selects "FlumeOrdersModel" ({ cls := "FlumeOrdersModel", name := "count", desc := "(I)I" } : Jvm.MethodName) ({ cls := "FlumeOrdersModel", name := "count", desc := "(I)I" } : Jvm.MethodName)) ∈ TW := in_t7 91 (by decide +kernel) rfl
theorem tw_1603 : (Jvm.Cond.code ({ cls := "FlumeOrdersModel", name := "count", desc := "(I)I" } : Jvm.MethodName) prog_15_method_66_code (5 : Nat) (Option.some Jvm.ClassFile.FieldType.int)) ∈ TW := in_t7 92 (by decide +kernel) rfl
theorem tw_1605 : (Jvm.Cond.sameMethod "java/lang/Throwable" "java/lang/Throwable" "fillInStackTrace" "(I)Ljava/lang/Throwable;") ∈ TW := in_t7 94 (by decide +kernel) rfl
theorem tw_1625 : (Jvm.Cond.fieldLink "FlumeOrders$Word" (119 : Nat) "FlumeOrders$Word" "spelling" "Ljava/lang/String;") ∈ TW := in_t7 114 (by decide +kernel) rfl
theorem tw_1626 : (Jvm.Cond.fieldLink "java/lang/String" (9 : Nat) "java/lang/String" "value" "[B") ∈ TW := in_t7 115 (by decide +kernel) rfl
theorem tw_1627 : (Jvm.Cond.fieldLink "java/lang/String" (15 : Nat) "java/lang/String" "coder" "B") ∈ TW := in_t7 116 (by decide +kernel) rfl
theorem tw_1628 : (Jvm.Cond.fieldLink "FlumeOrders$Things" (80 : Nat) "FlumeOrders$Word" "isPart" "Z") ∈ TW := in_t7 117 (by decide +kernel) rfl
theorem tw_1629 : (Jvm.Cond.fieldLink "FlumeOrders$Flow" (168 : Nat) "FlumeOrders$Word" "isJoin" "Z") ∈ TW := in_t7 118 (by decide +kernel) rfl
theorem tw_1630 : (Jvm.Cond.fieldLink "java/lang/Enum" (7 : Nat) "java/lang/Enum" "ordinal" "I") ∈ TW := in_t7 119 (by decide +kernel) rfl
