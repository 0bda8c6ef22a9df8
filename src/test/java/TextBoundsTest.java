/** The bounds of texts: how much may stand in them, what is wrong in them, and where. */
public final class TextBoundsTest {
    private static final String ASK = "all;answer if ";

    public static void main(String[] args) throws Exception {
        Sentences.hold(TextBoundsTest.class);
    }

    @Sentence("THE FOREST is told in texts (at most 10, one behind another)")
    private static void mostTexts(Check c) {
        FlumeOrders x = new FlumeOrders();
        for (int i = 1; i <= 10; i++) {
            c.due("text " + i, Check.forest(x, "water " + (i % 9 + 1)), i);
        }
        c.due("an 11th", Check.forest(x, "water 9"), Check.UNSUPPORTED);
        c.due("texts", x.count(1), 10);
        c.due("water of the 10th", x.count(5), 2);
    }

    @Sentence("LINE { ; LINE }, at most 14: camp LENGTH TREES")
    private static void mostLines(Check c) {
        FlumeOrders x = new FlumeOrders();
        c.due("14 lines", Check.forest(x, "seed 1;".repeat(13) + "water 8"), 1);
        c.due("water of the 14th", x.count(5), 8);
        c.due("15 lines", Check.forest(x, "seed 1;".repeat(14) + "water 7"), Check.ARGUMENT);
        c.due("water stays", x.count(5), 8);
    }

    @Sentence("camp: one CAMP more, at the end (the REACH that led to the MILL leads to it; the new one, to the MILL, has that"
        + " LENGTH, no STICK, no BEND)")
    private static void campAtTheEnd(Check c) {
        FlumeOrders x = Check.forestOf("reach 0 3 stick 4 bend 5;camp 6 7;reach 1 6 stick 8 bend 9;camp 2 1");
        int[][] due = {{3, 4, 5}, {6, 8, 9}, {2, 0, 0}};
        for (int r = 0; r < 3; r++) {
            for (int what = 0; what < 3; what++) {
                c.due("reach(" + r + ", " + what + ")", x.reach(r, what), due[r][what]);
            }
        }
        c.due("trees of camp 1", x.camp(1, 0), 7);
        c.due("trees of camp 2", x.camp(2, 0), 1);
    }

    @Sentence("it is wrong (its first word) if there are 11, or CHIPS")
    private static void twelfthCamp(Check c) {
        FlumeOrders x = Check.forestOf(Check.camps(10));
        c.due("the 11th", Check.forest(x, "camp 1 1"), 2);
        c.forestFault(x, "camp 1 1", 0);
        c.forestFault(x, "water 2; camp 1 1", 9);
        c.forestFault(x, "camp", 0);
        c.forestFault(x, "camp 99 ?", 0);
        c.due("camps", x.count(0), 11);
        c.forestFault(Check.camps(12), 99);
    }

    @Sentence("it is wrong (its first word) if there are 11, or CHIPS")
    private static void campWithChips(Check c) {
        FlumeOrders x = Check.forestOf("reach 0 1;camp 1 5");
        x.image();
        Check.chip(x, 0, 1, "to 1");
        c.forestFault(x, " camp 1 1", 1);
        c.forestFault(x, "camp", 0);
        c.forestFault(x, "camp 99 ?", 0);
        c.forestFault(x, "water 2;camp 1 1", 8);
        x.run(7);
        c.due("it is taken", x.look(0, 0), 3);
        c.forestFault(x, "camp 1 1", 0);
        c.due("another line", Check.forest(x, "water 2"), 2);
        x.back();
        c.due("there are no chips any more", Check.forest(x, "camp 1 1"), 2);
        Check.chip(x, 0, 1, "mill");
        x.run(100);
        c.due("it is out", x.look(0, 0), 4);
        c.forestFault(x, "camp 1 1", 0);
        c.due("camps", x.count(0), 2);
    }

    @Sentence("reach: one that there is; STICK and BEND are 0 without")
    private static void reachThatThereIs(Check c) {
        c.forestRight("reach 0 5");
        c.forestFault("reach 1 5", 6);
        c.forestRight("camp 1 5;reach 1 5");
        c.forestFault("camp 1 5;reach 2 5", 15);
        c.forestFault("reach 1 5;camp 1 5", 6);
    }

    @Sentence("reach: one that there is; STICK and BEND are 0 without")
    private static void withoutStickAndBend(Check c) {
        String[] texts = {"reach 0 5", "reach 0 5 stick 3", "reach 0 5 bend 4", "reach 0 5 stick 3 bend 4"};
        int[][] due = {{0, 0}, {3, 0}, {0, 4}, {3, 4}};
        for (int i = 0; i < texts.length; i++) {
            FlumeOrders x = Check.forestOf("reach 0 9 stick 9 bend 9;" + texts[i]);
            c.due("stick by " + texts[i], x.reach(0, 1), due[i][0]);
            c.due("bend by " + texts[i], x.reach(0, 2), due[i][1]);
            c.due("length by " + texts[i], x.reach(0, 0), 5);
        }
    }

    @Sentence("R: 0 to 11; N of seed 0 to 999; H 0 to 23")
    private static void numbersOfReaches(Check c) {
        FlumeOrders x = Check.forestOf(Check.camps(11));
        c.due("reach 0", Check.forest(x, "reach 0 2"), 2);
        c.due("reach 11", Check.forest(x, "reach 11 3"), 3);
        c.due("it has that length", x.reach(11, 0), 3);
        c.forestFault(x, "reach 12 3", 6);
        c.forestFault(x, "reach 999 3", 6);
    }

    @Sentence("R: 0 to 11; N of seed 0 to 999; H 0 to 23")
    private static void numbersOfSeeds(Check c) {
        for (int seed = 0; seed <= 999; seed += 999) {
            FlumeOrders x = Check.forestOf("reach 0 5 stick 50;seed " + seed);
            Check.chip(x, 0, 1, "mill");
            x.run(1);
            // 0 draws 0, and 999 draws 84.
            c.due("by seed " + seed, x.look(0, 0), seed == 0 ? 2 : 1);
        }
        c.forestFault("seed 1000", 5);
    }

    @Sentence("R: 0 to 11; N of seed 0 to 999; H 0 to 23")
    private static void numbersOfHours(Check c) {
        FlumeOrders x = Check.forestOf("frost 0 23");
        c.due("frost at first", x.count(9), 1);
        c.due("the other way round", Check.forest(x, "frost 23 0"), 2);
        c.due("no frost at first", x.count(9), 0);
        c.forestFault(x, "frost 24 0", 6);
        c.forestFault(x, "frost 0 24", 8);
        c.due("no frost yet", x.count(9), 0);
    }

    @Sentence("HEAD { ; ACT }, at most 8 ACTS")
    private static void mostActs(Check c) {
        FlumeOrders x = Check.forestOf("reach 0 1;camp 1 99");
        c.due("no act", Check.chip(x, 0, 1, "to 1"), 0);
        c.due("8 acts", Check.chip(x, 0, 1, "to 1" + ";cut 1".repeat(8)), 1);
        c.due("9 acts", Check.chip(x, 0, 1, "to 1" + ";cut 1".repeat(9)), Check.ARGUMENT);
        x.run(7);
        c.due("all 8 are done", x.camp(1, 1), 8);
    }

    @Sentence("HEAD: to C | all | mill (C: 1 to 11)")
    private static void campsOfHeads(Check c) {
        c.chipFault("to 0", 3);
        c.chipRight("to 1");
        c.chipRight("to 11");
        c.chipFault("to 12", 3);
        FlumeOrders x = Check.forestOf(Check.camps(11));
        Check.chip(x, 10, 1, "to 11");
        x.run(7);
        c.looks(x, 0, 3, 11, 0, 6);
    }

    @Sentence("N: 1 to 999; K: 0 to 59")
    private static void numbersOfActs(Check c) {
        for (String act : new String[] {"cut", "send"}) {
            c.chipFault("all;" + act + " 0", 5 + act.length());
            c.chipRight("all;" + act + " 1");
            c.chipRight("all;" + act + " 999");
            c.chipFault("all;" + act + " 1000", 5 + act.length());
        }
        FlumeOrders x = Check.forestOf("reach 0 1;camp 1 999");
        Check.chip(x, 0, 1, "to 1;cut 999;send 998");
        x.run(7);
        c.due("trees", x.camp(1, 0), 0);
        c.due("logs", x.camp(1, 1), 1);
        c.due("sent", x.camp(1, 2), 998);
    }

    @Sentence("N: 1 to 999; K: 0 to 59")
    private static void chipsOfVoids(Check c) {
        c.chipRight("all;void 0");
        c.chipRight("all;void 59");
        c.chipFault("all;void 60", 9);
        c.chipFault("all;void 60 if frost", 9);
    }

    @Sentence("answer [ if Q ] | void K.")
    private static void voidAsksNothing(Check c) {
        c.chipRight("all;answer if frost");
        c.chipFault("all;void 5 if frost", 11);
        c.chipFault("all;void if frost", 9);
        c.chipFault("all;answer 5", 11);
    }

    @Sentence("All numbers are of 1 to 3 digits.")
    private static void digits(Check c) {
        c.forestRight("water 5");
        c.forestRight("water 05");
        c.forestRight("water 005");
        c.forestFault("water 0005", 6);
        c.forestFault("water ", 6);
        c.chipRight("to 1;cut 999 if 999<000");
        c.chipFault("to 1;cut 999 if 1000<000", 16);
        c.chipFault("to 1;cut 999 if 999<0000", 20);
        c.chipFault("to 1;cut 999 if <000", 16);
        c.chipFault("to 1;cut 99999999999 if 1<2", 9);
        FlumeOrders x = Check.forestOf("camp 010 099;reach 001 020 stick 007 bend 008");
        c.due("trees", x.camp(1, 0), 99);
        c.due("length", x.reach(1, 0), 20);
    }

    @Sentence("Words are as long as a to z go on")
    private static void words(Check c) {
        c.forestFault("watera 5", 0);
        c.forestFault("waterz 5", 0);
        c.forestFault("awater 5", 0);
        c.forestFault("waterwater 5", 0);
        c.forestFault("wate 5", 0);
        c.forestFault("wa ter 5", 0);
        c.forestFault("water` 5", 5);
        c.forestFault("water{ 5", 5);
        c.forestFault("waterA 5", 5);
        c.forestFault("WATER 5", 0);
        c.forestRight("water5;seed7");
        c.forestRight("reach0 5stick3bend2");
        c.forestFault("reach0 5stickbend2", 8);
        c.chipRight("to1;cut5if frost");
        c.chipFault("to1;cut5iffrost", 8);
        c.chipFault("to1;cut 5 if notfrost", 13);
        c.chipRight("to1;cut5if(trees+2<3)and not(frost)or 1<2");
        c.chipFault("to1;cut5if frost andfrost", 17);
        // The last byte of the longest text ends a word, too.
        c.chipRight(" ".repeat(396) + "mill");
        c.chipFault(" ".repeat(397) + "mil", 397);
        c.forestRight(" ".repeat(393) + "water 5");
        c.forestFault(" ".repeat(395) + "water", 400);
    }

    @Sentence("between all there may be blanks (32), also ahead and behind")
    private static void blanks(Check c) {
        c.forestRight("  camp  5  6  ;  reach  0  5  stick  1  bend  2  ;  water  3  ;  frost  4  5  ;  seed  6  ");
        c.chipRight("  to  11  ;  cut  1  if  not  (  trees  +  1  <  2  or  frost  )  and  1  >  0  ;  void  3  ;  answer  ");
        c.chipRight("to 11;cut 1if not(trees+1<2or frost)and 1>0;void 3;answer");
        for (int sign : new int[] {0, 9, 10, 13, 31, 33, 160, 255}) {
            String other = String.valueOf((char) sign);
            c.forestFault(other + "water 5", 0);
            c.forestFault("water" + other + "5", 5);
            c.forestFault("water 5" + other, 7);
            c.forestFault("water 5" + other + ";seed 1", 7);
            c.chipFault(other + "mill", 0);
            c.chipFault("mill" + other, 4);
            c.chipFault("to 1;" + other + "answer", 5);
        }
    }

    @Sentence("A text of THE FOREST that is empty, or blanks alone, has no LINE.")
    private static void noLine(Check c) {
        FlumeOrders x = new FlumeOrders();
        c.due("without a tape", Check.answer(x::forest), 1);
        c.due("empty", Check.forest(x, ""), 2);
        c.due("a blank", Check.forest(x, " "), 3);
        c.due("400 blanks", Check.forest(x, " ".repeat(400)), 4);
        c.due("fault", x.fault(), FlumeOrders.NONE);
        c.due("camps", x.count(0), 0);
        c.forestFault(";", 0);
        c.forestFault(" ;", 1);
        // Of a chip there must be a head.
        c.chipFault("", 0);
        c.chipFault(" ", 1);
        c.chipFault(" ".repeat(400), 400);
    }

    @Sentence("( and not within one another at most 6 deep.")
    private static void sixDeep(Check c) {
        c.chipRight(ASK + "((((((frost))))))");
        c.chipRight(ASK + "not not not not not not frost");
        c.chipRight(ASK + "not(not(not(frost)))");
        c.chipRight(ASK + "(((not not not frost)))");
        c.chipRight(ASK + "((((((1<2 or frost and frost))))))");
        // Side by side they are not within one another.
        c.chipRight(ASK + "((((((frost))))))and not not not not not not frost or((((((frost))))))");
        c.chipRight(ASK + "not frost" + " and not frost".repeat(20));
        c.chipRight(ASK + "(frost)" + "or(frost)".repeat(20));
        c.chipRight(ASK + "(" + "(frost)or".repeat(20) + "(((((frost))))))");
    }

    @Sentence("( and not within one another at most 6 deep.")
    private static void sevenDeep(Check c) {
        c.chipFault(ASK + "(((((((frost)))))))", 20);
        c.chipFault(ASK + "not not not not not not not frost", 38);
        c.chipFault(ASK + "not(not(not( (frost))))", 27);
        c.chipFault(ASK + "not(not(not(not frost)))", 26);
        c.chipFault(ASK + "(((not not not (frost))))", 29);
        c.chipFault(ASK + "((((((frost and(frost)))))))", 29);
        c.chipFault(ASK + "((((((1<2 or not frost))))))", 27);
        c.chipFault(ASK + "((((((frost))))))and((((((not frost))))))", 40);
        c.chipFault(ASK + "((((((" + "(".repeat(300), 20);
    }

    @Sentence("The first wrong byte: the begin of the first thing that cannot stand there")
    private static void whatCannotStandThere(Check c) {
        wrongAfterEach(c, true, "camp 5 6 ; reach 0 5 stick 1 bend 2 ; water 3 ; frost 4 5 ; seed 6");
        wrongAfterEach(c, false, "to 3 ; cut 1 if not ( trees + 1 < 2 or frost ) and 3 > logs + sent + water ; send 2 if hour < weight"
            + " ; answer if frost ; void 3");
        wrongAfterEach(c, false, "all ; answer");
        wrongAfterEach(c, false, "mill ; cut 9");
    }

    /** Ahead of each thing, and behind the last one, a sign that is none; it may stand close or apart. */
    private static void wrongAfterEach(Check c, boolean isForest, String text) {
        String[] things = text.split(" ");
        StringBuilder begun = new StringBuilder();
        for (int i = 0; i <= things.length; i++) {
            for (String wrong : new String[] {"?", "  ?", " Mill", " =", " \u00e9"}) {
                String whole = begun + wrong + " " + text.substring(Math.min(begun.length(), text.length()));
                int place = begun.length() + wrong.length() - wrong.trim().length();
                if (isForest) {
                    c.forestFault(whole, place);
                } else {
                    c.chipFault(whole, place);
                }
            }
            if (i < things.length) {
                begun.append(i == 0 ? "" : " ").append(things[i]);
            }
        }
    }

    @Sentence("The first wrong byte: the begin of the first thing that cannot stand there")
    private static void ofSeveralTheFirst(Check c) {
        c.forestFault("water 0;seed 1000;saw", 6);
        c.forestFault("saw 0", 0);
        c.forestFault("reach 0 5 bend 1 stick 2", 17);
        c.forestFault("reach 0 5 stick 1 stick 2", 18);
        c.forestFault("reach 0 5 bend 1 bend 2", 17);
        c.forestFault("camp 1 1 1", 9);
        c.forestFault("water 5;;water 6", 8);
        c.chipFault("to 0;cut 0", 3);
        c.chipFault("mill;cut 0;send 0", 9);
        c.chipFault("mill mill", 5);
        c.chipFault("all;cut 1 2", 10);
        c.chipFault("all;cut 1 if (1)<2", 15);
        c.chipFault("all;cut 1 if (frost;answer", 19);
        c.chipFault("all;cut 1 if frost)", 18);
        c.chipFault("all;cut 1 if logs<1<2", 19);
        c.chipFault("all;cut 1 if frost<2", 18);
        c.chipFault("all;cut 1 if 1<>2", 15);
        c.chipFault("all;cut 1 if frost if frost", 19);
    }

    @Sentence("The first wrong byte: the begin of the first thing that cannot stand there")
    private static void whatCannotStandInAQuestion(Check c) {
        String[] questions = {"|", "|;", "logs|", "logs|;answer", "logs+|", "logs<|", "logs|=1", "logs<1|<2", "logs<1 |2", "|+1<2",
            "|<2", "1<|>2", "1+|+1<2", "2<|frost", "frost|<2", "frost and|", "frost and |or", "|and frost", "|or frost",
            "frost |not frost", "not|", "not |;", "(frost|", "(frost|;answer", "frost|)", "(|)", "(1|)<2", "(1+1<2)|+1", "1<|(1)",
            "frost |if frost", "frost |(frost)", "1 |2<3", "logs |sent<3", "frost |frost", "(frost)|frost", "not not|",
            "frost|!", "1<2|=", "|!frost", "1|/2<3"};
        for (String q : questions) {
            int place = q.indexOf('|');
            c.chipFault(ASK + q.substring(0, place) + q.substring(place + 1), ASK.length() + place);
        }
    }

    @Sentence("The first wrong byte: the begin of the first thing that cannot stand there")
    private static void whatCannotStandInAHead(Check c) {
        c.chipFault("to all", 3);
        c.chipFault("to mill", 3);
        c.chipFault("to;", 2);
        c.chipFault("all 1", 4);
        c.chipFault("mill 1", 5);
        c.chipFault("to 1 2", 5);
        c.chipFault("3", 0);
        c.chipFault(";", 0);
        c.chipFault("mill,", 4);
        c.chipFault("all;;cut 1", 4);
        c.chipFault("all;all", 4);
    }

    @Sentence("(a number of more digits,")
    private static void moreDigits(Check c) {
        c.forestFault("camp 0010 5", 5);
        c.forestFault("camp 10 0005", 8);
        c.forestFault("reach 0000 5", 6);
        c.forestFault("reach 0 0005", 8);
        c.forestFault("reach 0 5 stick 0001", 16);
        c.forestFault("reach 0 5 bend 0001", 15);
        c.forestFault("water 0005", 6);
        c.forestFault("frost 0001 2", 6);
        c.forestFault("frost 1 0002", 8);
        c.forestFault("seed 0001", 5);
        c.forestFault("seed 4294967297", 5);
        c.chipFault("to 0001", 3);
        c.chipFault("all;cut 0001", 8);
        c.chipFault("all;send 0001", 9);
        c.chipFault("all;void 0001", 9);
        c.chipFault("all;answer if 0001<2", 14);
        c.chipFault("all;answer if 1+0001<2", 16);
        c.chipFault("all;answer if 1<0002", 16);
        c.chipFault("all;0001 5", 4);
        c.chipFault("0001", 0);
        c.forestFault("0001 5 5", 0);
    }

    @Sentence("or out of its bounds,")
    private static void outOfBounds(Check c) {
        c.forestFault("camp 0 5", 5);
        c.forestFault("camp 21 5", 5);
        c.forestFault("reach 0 0", 8);
        c.forestFault("reach 0 21", 8);
        c.forestFault("reach 0 5 stick 100", 16);
        c.forestFault("reach 0 5 bend 10", 15);
        c.forestFault("water 0", 6);
        c.forestFault("water 10", 6);
        c.forestFault("frost 24 1", 6);
        c.forestFault("frost 1 24", 8);
        c.chipFault("to 0", 3);
        c.chipFault("to 12", 3);
        c.chipFault("all;cut 0", 8);
        c.chipFault("all;send 0", 9);
        c.chipFault("all;void 60", 9);
    }

    @Sentence("or that tells no REACH;")
    private static void noReach(Check c) {
        c.forestFault("reach 1 5", 6);
        c.forestFault("reach 12 5", 6);
        c.forestFault("camp 1 1; reach 2 5", 16);
        c.forestFault(Check.forestOf(Check.camps(10)), "reach 11 5", 6);
    }

    @Sentence("a word that is none;")
    private static void noWord(Check c) {
        c.forestFault(" saw 1", 1);
        c.forestFault("water 1;saw 1", 8);
        c.forestFault("reach 0 5 stuck 1", 10);
        c.forestFault("reach 0 5 stick 1 bent 1", 18);
        c.forestFault("water five", 6);
        c.chipFault("toward 1", 0);
        c.chipFault("to one", 3);
        c.chipFault("mill;saw 1", 5);
        c.chipFault("mill;cut one", 9);
        c.chipFault("mill;cut 1 when frost", 11);
        c.chipFault("mill;cut 1 if birds<1", 14);
        c.chipFault("mill;cut 1 if 1<birds", 16);
        c.chipFault("mill;cut 1 if 1+birds<1", 16);
        c.chipFault("mill;cut 1 if frost nor frost", 20);
        c.chipFault("mill;cut 1 if not birds", 18);
    }

    @Sentence("a word that is none;")
    private static void wordOfAnotherPlace(Check c) {
        c.forestFault("mill", 0);
        c.forestFault("stick 1", 0);
        c.forestFault("water camp", 6);
        c.chipFault("camp 1", 0);
        c.chipFault("cut 1", 0);
        c.chipFault("mill;to 1", 5);
        c.chipFault("mill;cut 1 if answer", 14);
        c.chipFault("mill;cut 1 if and frost", 14);
        c.chipFault("mill;cut 1 if 1<frost", 16);
    }

    @Sentence("the ( or not that is a 7th one deep;")
    private static void beginOfTheSeventh(Check c) {
        c.chipFault(ASK + "( ( ( ( ( (   ( frost", 28);
        c.chipFault(ASK + "not(not(not(   not", 29);
        c.chipFault(ASK + "frost or ((((((not", 29);
    }

    @Sentence("of a LINE, or ACT, too many, or a CAMP that cannot be, the first word)")
    private static void lineTooMany(Check c) {
        c.forestFault("seed 1;".repeat(14) + "seed 1", 98);
        c.forestFault("seed 1;".repeat(14) + "  seed", 100);
        c.forestFault("seed 1;".repeat(14) + "saw 99", 98);
        c.forestFault("seed 1;".repeat(14) + "camp 1 1;" + "water 0", 98);
        c.forestFault("seed 1;".repeat(14), 98);
        c.forestFault("seed 1;".repeat(14) + ";", 98);
    }

    @Sentence("of a LINE, or ACT, too many, or a CAMP that cannot be, the first word)")
    private static void actTooMany(Check c) {
        c.chipFault("mill;" + "void 1;".repeat(8) + "void 1", 61);
        c.chipFault("mill;" + "void 1;".repeat(8) + "  answer if", 63);
        c.chipFault("mill;" + "void 1;".repeat(8) + "saw", 61);
        c.chipFault("mill;" + "void 1;".repeat(8), 61);
        c.chipFault("mill;" + "void 1;".repeat(8) + ";", 61);
    }

    @Sentence("of a LINE, or ACT, too many, or a CAMP that cannot be, the first word)")
    private static void campThatCannotBe(Check c) {
        c.forestFault(Check.camps(11) + ";  camp 0 0", 101);
        FlumeOrders x = new FlumeOrders();
        Check.chip(x, 0, 1, "mill");
        c.forestFault(x, "  camp 0 0", 2);
        c.forestFault(x, "camp", 0);
    }

    @Sentence("or the text's length, if more must come.")
    private static void moreMustCome(Check c) {
        String[] forests = {"camp", "camp 5", "reach", "reach 0", "reach 0 5 stick", "reach 0 5 stick 1 bend", "reach 0 5 bend",
            "water", "frost", "frost 1", "seed", "water 5;"};
        for (String text : forests) {
            c.forestFault(text, text.length());
            c.forestFault(text + "   ", text.length() + 3);
        }
        String[] chips = {"", "to", "mill;", "all;cut", "all;send", "all;void", "all;cut 1;", "all;cut 1 if", "all;answer if",
            "all;answer if not", "all;answer if (", "all;answer if (frost", "all;answer if 1", "all;answer if logs", "all;answer if 1+",
            "all;answer if 1<", "all;answer if 1>2+", "all;answer if frost and", "all;answer if frost or", "all;answer if (frost or"};
        for (String text : chips) {
            c.chipFault(text, text.length());
            c.chipFault(text + "   ", text.length() + 3);
        }
    }

    @Sentence("Of a wrong text nothing stays.")
    private static void nothingStays(Check c) {
        FlumeOrders x = Check.forestOf("reach 0 1");
        c.forestFault(x, "camp 2 3;water 1;frost 0 5;seed 0;reach 0 7 stick 50 bend 2;reach 1 3 bend 1;camp 1 1;saw", 86);
        int[] counts = {0, 1, 0, 0, 0, 5, 0, 0, 0, 0};
        for (int what = 0; what < counts.length; what++) {
            c.due("count(" + what + ")", x.count(what), counts[what]);
        }
        int[] reach = {1, 0, 0, 0};
        for (int what = 0; what < reach.length; what++) {
            c.due("reach(0, " + what + ")", x.reach(0, what), reach[what]);
        }
        c.due("a camp yet to come", Check.forest(x, "camp 4 5"), 2);
        c.due("of its own length", x.reach(1, 0), 4);
        c.due("without a bend", x.reach(1, 2), 0);
        c.due("of its own trees", x.camp(1, 0), 5);
        // The seed is 1 yet, and draws 38; 0 would draw 0.
        Check.forest(x, "reach 0 1 stick 38");
        Check.chip(x, 0, 1, "mill");
        x.run(1);
        c.due("by the seed that was", x.look(0, 0), 1);
    }

    @Sentence("Of a wrong text nothing stays.")
    private static void nothingStaysOfNotches(Check c) {
        FlumeOrders x = Check.forestOf("reach 0 1;camp 1 99");
        Check.chip(x, 0, 1, "to 1;cut 1");
        c.due("a wrong one", Check.chip(x, 0, 1, "to 1;cut 20;send 9;answer;void 0;saw"), Check.ARGUMENT);
        c.due("a right one", Check.chip(x, 0, 1, "to 1;cut 3 if trees<99"), 1);
        c.due("a wrong one", Check.chip(x, 0, 1, "all;cut 40;"), Check.ARGUMENT);
        x.run(7);
        c.due("logs", x.camp(1, 1), 4);
        c.due("sent", x.camp(1, 2), 0);
        c.due("chips", x.count(2), 2);
    }
}
