/** A test or more for each promise of the document: ordinary calls, its edges, wrong ones. Answers are worked out by hand. */
public final class PromiseTest {
    private static final int BAD = -1, FULL = -2, NONE = -3, STATE = -4;
    private static final int MAX = Integer.MAX_VALUE, MIN = Integer.MIN_VALUE;
    private static int wrong = 0;

    private static void due(int promise, String call, long got, long want) {
        if (got != want) {
            wrong++;
            System.out.println("promise " + promise + ": " + call + " answered " + got + ", due is " + want);
        }
    }

    /** Feeds a text and has it read; answers what rules() does. */
    private static int text(RoundAndUp x, String s) {
        for (int at = 0; at < s.length(); at += 8) {
            long eight = 0;
            int n = Math.min(8, s.length() - at);
            for (int k = 0; k < n; k++) {
                eight |= (long) s.charAt(at + k) << 8 * k;
            }
            x.feed(eight, n);
        }
        return x.rules();
    }

    /** A horse 8, a swan 6, a lame 5, a white 12, an ostrich 7; nothing else. */
    private static RoundAndUp five() {
        RoundAndUp x = new RoundAndUp();
        x.animal(1, 8, 0, 5);
        x.animal(2, 6, 3, 10);
        x.animal(4, 5, 11, 7);
        x.animal(3, 12, 2, 20);
        x.animal(5, 7, 1, 4);
        return x;
    }

    /** n horses of a crank, all with phase 0. */
    private static RoundAndUp horses(int n, int crank) {
        RoundAndUp x = new RoundAndUp();
        for (int k = 0; k < n; k++) {
            x.animal(1, crank, 0, k);
        }
        return x;
    }

    public static void main(String[] args) {
        theRing();
        takingAnimals();
        levelTurnSlip();
        feeding();
        rulesThatHold();
        rulesByFacts();
        faults();
        heights();
        clashes();
        spans();
        ringsCaught();
        levels();
        phasesOfOne();
        tuning();
        downTogether();
        slippedCranks();
        childrenTold();
        seatings();
        riding();
        photographs();
        liars();
        rowsProved();
        judging();
        sheetsMade();
        itemsRead();
        setsOfPhases();
        shelvesHeld();
        actsDone();
        actsParted();
        kept();
        System.out.println(wrong == 0 ? "all promises hold" : wrong + " answers are not as due");
        if (wrong != 0) {
            System.exit(1);
        }
    }

    private static void theRing() {
        RoundAndUp x = new RoundAndUp();
        for (int what = 0; what <= 6; what++) {
            due(1, "many(" + what + ")", x.many(what), 0);
        }
        due(1, "again()", x.again(), NONE);
        due(1, "level(3)", x.level(3), 3);
        due(1, "turn(1)", x.turn(1), 1);
        due(1, "high(0)", x.high(0), 0);
        due(1, "clash(0)", x.clash(0), NONE);
        due(1, "taken(0, 0)", x.taken(0, 0), -11);
        due(1, "item(3, 0, 0)", x.item(3, 0, 0), -11);
        due(1, "row(0, 0)", x.row(0, 0), -9);
        due(1, "trace(0)", x.trace(0), NONE);
        due(1, "height(0, 0)", x.height(0, 0), BAD);
    }

    private static void takingAnimals() {
        RoundAndUp x = new RoundAndUp();
        int[][] bad = {{0, 8, 0, 5}, {6, 8, 0, 5}, {1, 1, 0, 5}, {1, 13, 0, 5}, {1, 8, -1, 5}, {1, 8, 12, 5}, {1, 8, 0, -1}, {1, 8, 0, 100}, {MIN, MAX, MIN, MAX}};
        for (int[] b : bad) {
            due(2, "a wrong animal()", x.animal(b[0], b[1], b[2], b[3]), BAD);
        }
        due(2, "many(0)", x.many(0), 0);
        due(2, "animal(5, 2, 11, 99)", x.animal(5, 2, 11, 99), 0);
        due(2, "animal(1, 12, 0, 0)", x.animal(1, 12, 0, 0), 1);
        for (int k = 2; k < 9; k++) {
            due(2, "animal(2, 5, 4, 3)", x.animal(2, 5, 4, 3), k);
        }
        due(2, "a tenth", x.animal(2, 5, 4, 3), FULL);
        due(2, "a wrong tenth", x.animal(0, 5, 4, 3), BAD);
        due(2, "many(0)", x.many(0), 9);
        int[] told = {5, 2, 11, 99, 198, 0, 1};
        for (int what = 0; what <= 6; what++) {
            due(3, "animalOf(0, " + what + ")", x.animalOf(0, what), told[what]);
        }
        due(3, "animalOf(0, 7)", x.animalOf(0, 7), BAD);
        due(3, "animalOf(0, -1)", x.animalOf(0, -1), BAD);
        due(3, "animalOf(9, 0)", x.animalOf(9, 0), BAD);
        due(3, "animalOf(-1, 0)", x.animalOf(-1, 0), BAD);
        x.turn(1);
        due(3, "animalOf(0, 6) a turn on", x.animalOf(0, 6), 0);
        due(4, "change(0, 1, 3)", x.change(0, 1, 3), 2);
        due(4, "change(0, 2, 0)", x.change(0, 2, 0), 11);
        due(4, "change(0, 3, 7)", x.change(0, 3, 7), 99);
        due(4, "animalOf(0, 1)", x.animalOf(0, 1), 3);
        due(4, "animalOf(0, 2)", x.animalOf(0, 2), 0);
        due(4, "animalOf(0, 3)", x.animalOf(0, 3), 7);
        int[][] not = {{0, 0, 3}, {0, 4, 3}, {0, 1, 1}, {0, 1, 13}, {0, 2, -1}, {0, 2, 12}, {0, 3, -1}, {0, 3, 100}, {9, 1, 3}, {-1, 1, 3}};
        for (int[] b : not) {
            due(4, "a wrong change()", x.change(b[0], b[1], b[2]), BAD);
        }
        due(4, "animalOf(0, 1)", x.animalOf(0, 1), 3);
        due(5, "paint(0, 3)", x.paint(0, 3), 5);
        due(5, "animalOf(0, 0)", x.animalOf(0, 0), 3);
        due(5, "animalOf(0, 4)", x.animalOf(0, 4), 7);
        due(5, "animalOf(0, 6): one higher now", x.animalOf(0, 6), 2);
        due(5, "paint(0, 0)", x.paint(0, 0), BAD);
        due(5, "paint(0, 6)", x.paint(0, 6), BAD);
        due(5, "paint(9, 1)", x.paint(9, 1), BAD);
        due(5, "animalOf(0, 0)", x.animalOf(0, 0), 3);
    }

    private static void levelTurnSlip() {
        RoundAndUp x = horses(2, 8);
        due(6, "level(-1)", x.level(-1), BAD);
        due(6, "level(8)", x.level(8), BAD);
        due(6, "level(7)", x.level(7), 3);
        due(6, "level(0)", x.level(0), 7);
        due(6, "high(0)", x.high(0), 3);
        due(7, "turn(0)", x.turn(0), BAD);
        due(7, "turn(-5)", x.turn(-5), BAD);
        due(7, "turn(501)", x.turn(501), BAD);
        for (int k = 1; k < 20; k++) {
            due(7, "turn(500)", x.turn(500), 500 * k);
        }
        due(7, "turn(500) at 9500", x.turn(500), STATE);
        due(7, "turn(499) at 9500", x.turn(499), 9999);
        due(7, "turn(1) at 9999", x.turn(1), STATE);
        due(7, "turn(501) at 9999", x.turn(501), BAD);
        due(7, "turn(MAX)", x.turn(MAX), BAD);
        due(7, "animalOf(0, 6) in 9999", x.animalOf(0, 6), 1);
        due(8, "slip(0, 11)", x.slip(0, 11), 0);
        due(8, "animalOf(0, 2)", x.animalOf(0, 2), 3);
        due(8, "slip(0, -11)", x.slip(0, -11), 3);
        due(8, "animalOf(0, 2)", x.animalOf(0, 2), 0);
        due(8, "slip(0, -1)", x.slip(0, -1), 0);
        due(8, "animalOf(0, 2)", x.animalOf(0, 2), 7);
        x.change(1, 1, 2);
        x.change(1, 2, 11);
        due(8, "slip(1, 0) of phase 11 on crank 2", x.slip(1, 0), 11);
        due(8, "animalOf(1, 2)", x.animalOf(1, 2), 1);
        due(8, "slip(1, -11)", x.slip(1, -11), 1);
        due(8, "animalOf(1, 2)", x.animalOf(1, 2), 0);
        due(8, "slip(0, 12)", x.slip(0, 12), BAD);
        due(8, "slip(0, -12)", x.slip(0, -12), BAD);
        due(8, "slip(2, 1)", x.slip(2, 1), BAD);
        due(8, "animalOf(0, 2)", x.animalOf(0, 2), 7);
    }

    private static void feeding() {
        RoundAndUp x = horses(1, 8);
        due(9, "feed(1, 0)", x.feed(1, 0), BAD);
        due(9, "feed(1, 9)", x.feed(1, 9), BAD);
        due(9, "feed(1, MIN)", x.feed(1, MIN), BAD);
        for (int k = 1; k <= 24; k++) {
            due(9, "feed(-1, 8)", x.feed(-1L, 8), 8 * k);
        }
        due(9, "feed(0, 7)", x.feed(0, 7), 199);
        due(9, "feed(0, 2) at 199", x.feed(0, 2), FULL);
        due(9, "feed(0, 9) at 199", x.feed(0, 9), BAD);
        due(9, "many(5)", x.many(5), 199);
        due(9, "feed(0, 1) at 199", x.feed(0, 1), 200);
        due(9, "feed(0, 1) at 200", x.feed(0, 1), FULL);
        due(10, "rules() of bytes 255", x.rules(), -100);
        due(10, "many(5): it is used up", x.many(5), 0);
        due(9, "the lowest first, bytes above n let go", x.feed(0x7878786573726f68L, 5), 5);
        due(9, "the rest", x.feed(0x3b65657266L << 8 | ' ', 6), 11);
        due(9, "rules()", x.rules(), 1);
        due(9, "animalOf(0, 4)", x.animalOf(0, 4), 0);
    }

    private static void rulesThatHold() {
        RoundAndUp x = five();
        due(10, "rules()", text(x, "swan dear 3; ostrich free; white slow; horse stop; animal dear 99;"), 5);
        due(10, "many(1)", x.many(1), 5);
        int[] price = {5, 26, 106, 20, 14};
        int[] pace = {2, 0, 0, 1, 0};
        for (int i = 0; i < 5; i++) {
            due(10, "animalOf(" + i + ", 4)", x.animalOf(i, 4), price[i]);
            due(10, "animalOf(" + i + ", 5)", x.animalOf(i, 5), pace[i]);
        }
        due(10, "height(0, 4) of one that stops", x.height(0, 4), 0);
        due(10, "height(3, 9) of one that is slow: place 2 + 4", x.height(3, 9), 7);
        due(10, "all rules in place of those", text(x, " ostrich slow ; "), 1);
        due(10, "height(4, 5): place 1 + 3 / 2", x.height(4, 5), 2);
        due(10, "height(0, 4)", x.height(0, 4), 4);
        due(10, "animalOf(1, 4)", x.animalOf(1, 4), 20);
        due(10, "a fault", text(x, "horse free"), -110);
        due(10, "leaves the rules", x.many(1), 1);
        due(10, "leaves the rules", x.animalOf(4, 5), 1);
        due(10, "no text", text(x, ""), 0);
        due(10, "no rules", x.animalOf(4, 5), 0);
        due(10, "blanks alone", text(x, "   "), 0);
        due(10, "no blanks where they are not needed", text(x, "swan if 1<2and(3>2)dear09;lame if level=3slow;"), 2);
        due(10, "animalOf(1, 4)", x.animalOf(1, 4), 38);
        due(10, "animalOf(2, 5)", x.animalOf(2, 5), 1);
        due(10, "dear 0099", text(x, "swan dear 0099;"), 1);
        due(10, "animalOf(1, 4)", x.animalOf(1, 4), 218);
    }

    /** Whether a condition holds for each of the five: as a set. */
    private static int holds(String condition) {
        RoundAndUp x = five();
        int rules = text(x, "animal if " + condition + " stop;");
        int set = 0;
        for (int i = 0; i < 5; i++) {
            set |= x.animalOf(i, 5) == 2 ? 1 << i : 0;
        }
        return rules == 1 ? set : rules;
    }

    private static void rulesByFacts() {
        due(10, "number < 2", holds("number < 2"), 3);
        due(10, "level = 3", holds("level = 3"), 31);
        due(10, "level < 3", holds("level < 3"), 0);
        due(10, "crank > 6", holds("crank > 6"), 1 | 8 | 16);
        due(10, "phase = 11, as told", holds("phase = 11"), 4);
        due(10, "price = 10, as told", holds("price = 10"), 2);
        due(10, "9999 > price", holds("9999 > price"), 31);
        due(10, "phase < number", holds("phase < number"), 8 | 16);
        due(10, "and binds more than or", holds("number = 0 or number = 1 and level = 7"), 1);
        due(10, "and binds more than or", holds("level = 7 and number = 1 or number = 0"), 1);
        due(10, "brackets", holds("(number = 0 or number = 1) and level = 7"), 0);
        due(10, "not binds most", holds("not number = 0 and number < 3"), 6);
        due(10, "not not", holds("not not number = 0"), 1);
        due(10, "not ( )", holds("not ( number = 0 or number = 4 )"), 14);
        due(10, "three open", holds("not(not(not(number=2)))"), 27);
        due(10, "three open, twice", holds("(((1=1))) and (((number=2)) or (number=3))"), 12);
        due(10, "or in brackets within", holds("number = 4 or (number > 0 and (number < 2 or (number = 2)))"), 22);
        RoundAndUp x = five();
        text(x, "swan if number = 1 free; swan if phase < 4 dear 1; animal dear 2;");
        due(10, "the first that holds", x.animalOf(1, 4), 0);
        due(10, "the second", x.animalOf(4, 4), 10);
        due(10, "the third", x.animalOf(0, 4), 7);
        x.change(4, 2, 5);
        due(10, "asked anew", x.animalOf(4, 4), 12);
    }

    private static void faults() {
        String[] texts = {"slow;", "horse", "horse 5", "horse slow", "horse slow horse", "horse dear ;", "horse dear 100;", "horse dear 00001;",
            "horse slow5;", "horse if slow;", "horse if 1 slow;", "horse if 1 < slow;", "horse if 1 = 1 ; ", "horse if 1 = 1 2;", "horse if not",
            "horse if not ( 1 = 1 slow;", "horse if 1=1) slow;", "horse if ((((1=1))))slow;", "horse if (((1=1)and((2=2))))slow;",
            "horse if 12345 < 1 slow;", "horse if 1 < 12345 slow;", "Horse slow;", "hors slow;", "horses slow;", "hor se slow;", "horse\tslow;",
            "horse if level phase", "horse if number < level or", "horse if 1 == 1", "horse if (level) = 3 slow;", "horse if 1 < 2 < 3 slow;", ";",
            "horse slow;;", "horse slow; \u00ff", "horse if and", "horse free free;", "horse if 1=1 or not slow;", "horse   ", "animal if free = 1 slow;",
            "horse slowz;", "z", "horse zz", "horse if 01234 = 1 slow;", "11111", "1", " 12345", "horse if 1=1 fre;", "(", "horse if () slow;", "horse {",
            "horse if `=1 slow;", "horse if /=1 slow;", "horse if := 1 slow;", "horse if 1\u003f2", "horse if 10000=1 slow;", "horse if 9999 9999", "horse if number = 1 dear",
            "horse if if 1=1 slow;", "dear 5;", "horse dear dear;", "horse dear", "animal if ( 1 = 1 and ) slow;"};
        int[] places = {0, 5, 6, 10, 11, 11, 11, 11,
            10, 9, 11, 13, 15, 15, 12,
            21, 12, 12, 20,
            9, 13, 0, 0, 0, 0, 5,
            15, 26, 12, 15, 15, 0,
            11, 12, 9, 11, 20, 8, 10,
            6, 0, 6, 9, 0, 0, 1, 13, 0, 10, 6,
            9, 9, 9, 10, 9, 14, 24,
            9, 0, 11, 10, 22};
        RoundAndUp x = horses(1, 8);
        for (int k = 0; k < texts.length; k++) {
            due(10, "rules() of '" + texts[k] + "'", text(x, texts[k]), -100 - places[k]);
        }
        due(10, "eight rules", text(x, "lame stop;".repeat(8)), 8);
        due(10, "a ninth", text(x, "lame stop;".repeat(8) + "  lame stop;"), -182);
        due(10, "blanks behind the eighth", text(x, "lame stop;".repeat(8) + "   "), 8);
        due(10, "the eight still stand", x.many(1), 8);
        String full = "horse if " + "not ".repeat(44) + "1=1   stop;";
        due(10, "196 bytes", text(x, full), 1);
        due(10, "44 nots", x.animalOf(0, 5), 2);
    }

    private static void heights() {
        RoundAndUp x = five();
        int[][] want = {{0, 0, 0}, {0, 4, 4}, {0, 5, 3}, {0, 9999, 1}, {1, 1, 3}, {1, 2, 2}, {1, 7, 0}, {2, 6, 2}, {2, 7, 1}, {2, 14, 2},
            {3, 0, 3}, {3, 4, 7}, {3, 10, 1}, {4, 0, 1}, {4, 1, 2}, {4, 2, 2}, {4, 3, 3}};
        for (int[] w : want) {
            due(11, "height(" + w[0] + ", " + w[1] + ")", x.height(w[0], w[1]), w[2]);
        }
        due(11, "height(5, 0)", x.height(5, 0), BAD);
        due(11, "height(-1, 0)", x.height(-1, 0), BAD);
        due(11, "height(0, -1)", x.height(0, -1), BAD);
        due(11, "height(0, 10000)", x.height(0, 10000), BAD);
        due(12, "high(0)", x.high(0), 2 | 8);
        due(12, "high(4)", x.high(4), 1 | 8 | 16);
        due(12, "high(10000)", x.high(10000), BAD);
        due(12, "high(-1)", x.high(-1), BAD);
        x.level(0);
        due(12, "high(9999) at level 0", x.high(9999), 31);
        x.level(7);
        due(12, "high(4) at level 7", x.high(4), 8);
    }

    private static void clashes() {
        RoundAndUp x = five();
        due(13, "clash(0)", x.clash(0), NONE);
        due(13, "clash(3)", x.clash(3), 3);
        due(13, "clash(-1)", x.clash(-1), BAD);
        due(13, "clash(10000)", x.clash(10000), BAD);
        x.paint(2, 4);
        x.level(0);
        due(13, "clash(0) at level 0", x.clash(0), 0);
        RoundAndUp one = horses(1, 4);
        one.level(0);
        due(13, "one alone", one.clash(0), NONE);
        due(14, "one alone", one.nextClash(0), NONE);
        RoundAndUp two = horses(2, 4);
        two.level(2);
        due(13, "two: clash(2)", two.clash(2), 0);
        due(13, "two: clash(1)", two.clash(1), NONE);
        RoundAndUp three = horses(3, 4);
        three.level(2);
        three.change(1, 2, 1);
        due(13, "the last and the first", three.clash(2), 2);
        three.animal(1, 4, 1, 0);
        due(13, "of four, 0 and 2 are not beside", three.clash(2), NONE);
        due(14, "nextClash(0)", x.nextClash(0), 0);
        due(14, "two: nextClash(3)", two.nextClash(3), 6);
        due(14, "two: nextClash(9999)", two.nextClash(9999), 10002);
        due(14, "nextClash(10000)", two.nextClash(10000), BAD);
        due(14, "nextClash(-1)", two.nextClash(-1), BAD);
        RoundAndUp far = new RoundAndUp();
        far.animal(1, 11, 0, 0);
        far.animal(2, 9, 0, 0);
        far.level(4);
        int first = 0;
        for (int t = 0; t < 200 && first == 0; t++) {
            int a = t % 11, b = t / 2 % 9;
            first = Math.min(a, 11 - a) >= 4 && Math.min(b, 9 - b) >= 4 ? t : 0;
        }
        due(14, "nextClash of horse and swan", far.nextClash(0), first);
        RoundAndUp lame = new RoundAndUp();
        lame.animal(1, 6, 0, 0);
        lame.animal(4, 7, 0, 0);
        due(14, "237 is the last of 200 turns", lame.nextClash(38), 237);
        due(14, "237 is one too far", lame.nextClash(37), NONE);
        text(lame, "animal if number = 0 and phase = 0 stop;");
        due(13, "clash(21) with one that stops", lame.clash(21), NONE);
        due(12, "high(21) with one that stops", lame.high(21), 2);
        due(11, "height(0, 21) of one that stops", lame.height(0, 21), 0);
        lame.change(0, 2, 3);
        due(13, "clash(22) with one that goes", lame.clash(24), NONE);
        due(12, "high(24)", lame.high(24), 1);
    }

    private static void spans() {
        RoundAndUp two = horses(2, 8);
        two.level(4);
        due(15, "quiet(0, 200): clashes in 4, 12, ..", two.quiet(0, 200), 7);
        due(15, "quiet(0, 4)", two.quiet(0, 4), 4);
        due(15, "quiet(0, 5)", two.quiet(0, 5), 4);
        due(15, "quiet(4, 1)", two.quiet(4, 1), 0);
        due(15, "quiet(9999, 200)", two.quiet(9999, 200), 7);
        due(15, "quiet(0, 0)", two.quiet(0, 0), BAD);
        due(15, "quiet(0, 201)", two.quiet(0, 201), BAD);
        due(15, "quiet(10000, 1)", two.quiet(10000, 1), BAD);
        due(15, "quiet(-1, 1)", two.quiet(-1, 1), BAD);
        due(15, "without animals", new RoundAndUp().quiet(0, 200), 200);
        text(two, "animal if number = 1 stop;");
        due(15, "with one that stops", two.quiet(0, 200), 200);
        due(14, "with one that stops", two.nextClash(0), NONE);
    }

    private static void ringsCaught() {
        RoundAndUp x = horses(3, 4);
        x.level(2);
        // Ring of animal 0 in turns 0, 3, 6, ..; high in 2, 6, 10, ..: both in 6, 18, 30, ..
        due(16, "rings(0, 0, 200)", x.rings(0, 0, 200), 17);
        due(16, "rings(0, 6, 12)", x.rings(0, 6, 12), 1);
        due(16, "rings(0, 6, 13)", x.rings(0, 6, 13), 2);
        due(16, "rings(1, 0, 12): in 2", x.rings(1, 0, 3), 1);
        due(16, "rings(2, 0, 10)", x.rings(2, 0, 10), 0);
        due(16, "rings(2, 0, 11)", x.rings(2, 0, 11), 1);
        due(16, "rings(3, 0, 1)", x.rings(3, 0, 1), BAD);
        due(16, "rings(0, 0, 0)", x.rings(0, 0, 0), BAD);
        due(16, "rings(0, 0, 201)", x.rings(0, 0, 201), BAD);
        due(16, "rings(0, 10000, 1)", x.rings(0, 10000, 1), BAD);
        due(17, "firstRing(0, 0)", x.firstRing(0, 0), 6);
        due(17, "firstRing(0, 7)", x.firstRing(0, 7), 18);
        due(17, "firstRing(2, 9999)", x.firstRing(2, 9999), 10006);
        due(17, "firstRing(3, 0)", x.firstRing(3, 0), BAD);
        due(17, "firstRing(0, -1)", x.firstRing(0, -1), BAD);
        due(17, "firstRing(0, 10000)", x.firstRing(0, 10000), BAD);
        due(18, "mostRings(0, 200): 17, 17, 16", x.mostRings(0, 200), 0);
        due(18, "mostRings(0, 3)", x.mostRings(0, 3), 1);
        due(18, "mostRings(7, 4)", x.mostRings(7, 4), 2);
        due(18, "mostRings(0, 1): none has one", x.mostRings(0, 1), 0);
        due(18, "mostRings(0, 0)", x.mostRings(0, 0), BAD);
        due(18, "mostRings(0, 201)", x.mostRings(0, 201), BAD);
        due(18, "mostRings(-1, 1)", x.mostRings(-1, 1), BAD);
        due(18, "without animals", new RoundAndUp().mostRings(0, 1), NONE);
        due(18, "without animals, wrong", new RoundAndUp().mostRings(0, 0), BAD);
        x.level(3);
        due(17, "never high", x.firstRing(0, 0), NONE);
        RoundAndUp slow = horses(8, 2);
        slow.paint(0, 4);
        slow.change(0, 1, 9);
        slow.level(4);
        text(slow, "lame slow;");
        due(17, "448 is the last of 200 turns", slow.firstRing(0, 249), 448);
        due(17, "448 is one too far", slow.firstRing(0, 248), NONE);
        due(17, "152 is ahead of it", slow.firstRing(0, 152), 152);
        due(16, "rings of a slow one", slow.rings(0, 152, 200), 1);
        due(18, "none but the slow one", slow.mostRings(152, 200), 0);
    }

    private static void levels() {
        RoundAndUp x = horses(2, 8);
        due(19, "levelFor(0, 1): both down", x.levelFor(0, 1), 1);
        due(19, "levelFor(0, 3)", x.levelFor(0, 3), 3);
        due(19, "levelFor(0, 200)", x.levelFor(0, 200), 5);
        due(19, "levelFor(9999, 1): place 7", x.levelFor(9999, 1), 2);
        due(19, "the level stays", x.level(3), 3);
        due(19, "levelFor(0, 0)", x.levelFor(0, 0), BAD);
        due(19, "levelFor(0, 201)", x.levelFor(0, 201), BAD);
        due(19, "levelFor(10000, 1)", x.levelFor(10000, 1), BAD);
        due(19, "one alone", horses(1, 8).levelFor(0, 200), 0);
        text(x, "animal if level = 2 and number = 1 stop;");
        due(19, "the rules ask by the level", x.levelFor(0, 200), 2);
        due(19, "the level stays", x.level(3), 3);
        RoundAndUp white = new RoundAndUp();
        white.animal(3, 12, 0, 0);
        white.animal(3, 12, 0, 0);
        due(19, "two white ones meet at 7", white.levelFor(0, 7), NONE);
        due(19, "until then", white.levelFor(0, 6), 7);
        due(19, "the level stays", white.level(3), 3);
    }

    private static void phasesOfOne() {
        RoundAndUp x = horses(2, 6);
        due(20, "phases(0): all but 0", x.phases(0), 62);
        x.change(1, 2, 2);
        due(20, "phases(0): all but 2", x.phases(0), 59);
        due(20, "phases(2)", x.phases(2), BAD);
        due(20, "phases(-1)", x.phases(-1), BAD);
        due(20, "one alone", horses(1, 6).phases(0), 63);
        x.animal(1, 6, 5, 0);
        due(20, "the last is beside the first, too", x.phases(0), 27);
        due(20, "its own phase stays", x.animalOf(0, 2), 0);
        text(x, "animal if number = 0 and phase = 5 stop;");
        due(20, "the rules ask by it", x.phases(0), 59);
        x.level(4);
        due(20, "never high", x.phases(0), 63);
        RoundAndUp seldom = new RoundAndUp();
        seldom.animal(1, 10, 0, 0);
        seldom.animal(1, 11, 6, 0);
        seldom.level(5);
        due(20, "phases 6 and 6 meet in turn 99 alone", seldom.phases(0) >> 6 & 1, 0);
        seldom.change(1, 2, 5);
        due(20, "phases 5 and 5 meet in turn 0 alone", seldom.phases(0) >> 5 & 1, 0);
        due(21, "without turn 0 or 99 there would be rows", seldom.tune(0), NONE);
        seldom.paint(0, 4);
        seldom.change(0, 1, 11);
        seldom.change(1, 1, 10);
        seldom.change(1, 2, 6);
        seldom.level(4);
        due(20, "phases 0 and 6 meet in turn 100 first", seldom.phases(0) & 1, 1);
        due(21, "phases 0 and 6 are the first row", seldom.tune(0), 0);
        due(21, "phases 0 and 6 are the first row", seldom.tune(1), 6);
        RoundAndUp mixed = horses(9, 8);
        mixed.change(0, 1, 6);
        int[] cranks = {6, 8, 8, 6, 8, 6, 8, 8, 8};
        for (int i = 0; i < 9; i++) {
            mixed.change(i, 1, cranks[i]);
        }
        text(mixed, "animal if crank = 6 stop;");
        int[] row = {0, 0, 3, 0, 0, 0, 0, 3, 0};
        due(22, "tuneAll() of nine at level 3", mixed.tuneAll(), 2);
        for (int i = 0; i < 9; i++) {
            due(22, "animalOf(" + i + ", 2) at level 3", mixed.animalOf(i, 2), row[i]);
        }
        mixed.level(4);
        row[2] = 1;
        row[7] = 1;
        due(22, "tuneAll() of nine", mixed.tuneAll(), 2);
        for (int i = 0; i < 9; i++) {
            due(22, "animalOf(" + i + ", 2) of nine", mixed.animalOf(i, 2), row[i]);
        }
    }

    private static void tuning() {
        RoundAndUp x = horses(4, 6);
        due(21, "tune(0)", x.tune(0), 0);
        due(21, "tune(1)", x.tune(1), 1);
        due(21, "tune(2)", x.tune(2), 0);
        due(21, "tune(3)", x.tune(3), 1);
        due(21, "tune(4)", x.tune(4), BAD);
        due(21, "tune(-1)", x.tune(-1), BAD);
        due(21, "phases stay", x.animalOf(1, 2), 0);
        due(22, "tuneAll()", x.tuneAll(), 2);
        due(22, "animalOf(1, 2)", x.animalOf(1, 2), 1);
        due(22, "no clash", x.nextClash(0), NONE);
        due(22, "tuneAll() again", x.tuneAll(), 0);
        x.animal(1, 6, 0, 0);
        due(21, "of five the last is beside the first: 0 1 0 1 2", x.tune(4), 2);
        x.level(2);
        due(21, "of five at level 2 there is none", x.tune(0), NONE);
        due(22, "tuneAll()", x.tuneAll(), NONE);
        due(22, "phases stay", x.animalOf(4, 2), 0);
        RoundAndUp two = horses(2, 4);
        two.level(1);
        due(21, "two that are high three turns of four", two.tune(1), NONE);
        RoundAndUp one = horses(1, 4);
        one.change(0, 2, 7);
        due(22, "one alone, phase above its crank", one.tuneAll(), 1);
        due(22, "animalOf(0, 2)", one.animalOf(0, 2), 0);
        due(22, "without animals", new RoundAndUp().tuneAll(), 0);
        RoundAndUp asks = horses(2, 6);
        text(asks, "animal if number = 1 and phase = 0 stop;");
        due(21, "the rules ask by phases as they are", asks.tune(1), 0);
        asks.change(1, 2, 4);
        due(21, "the rules ask by phases as they are", asks.tune(1), 1);
        asks.change(1, 2, 11);
        due(22, "tuneAll()", asks.tuneAll(), 1);
    }

    private static void downTogether() {
        RoundAndUp x = horses(3, 4);
        x.change(1, 1, 6);
        x.change(1, 2, 1);
        x.change(2, 2, 1);
        due(23, "organ(0, 6, 2)", x.organ(0, 6, 2), 8);
        due(23, "organ(0, 4, 0)", x.organ(0, 4, 0), 0);
        due(23, "organ(0, 4, 1)", x.organ(0, 4, 1), NONE);
        due(23, "organ(1, 60, 59)", x.organ(1, 60, 59), 59);
        due(23, "organ(0, 1, 0)", x.organ(0, 1, 0), BAD);
        due(23, "organ(0, 61, 0)", x.organ(0, 61, 0), BAD);
        due(23, "organ(0, 5, 5)", x.organ(0, 5, 5), BAD);
        due(23, "organ(0, 5, -1)", x.organ(0, 5, -1), BAD);
        due(23, "organ(3, 5, 0)", x.organ(3, 5, 0), BAD);
        due(23, "organ(0, 0, 0)", x.organ(0, 0, 0), BAD);
        due(24, "together(1, 1)", x.together(1, 1), 4);
        due(24, "together(0, 77): all of none", x.together(0, 77), 77);
        due(24, "together(3, 0): 0 mod 4, 5 mod 6", x.together(3, 0), NONE);
        due(24, "together(6, 0): 3 mod 4, 5 mod 6", x.together(6, 0), 11);
        due(24, "together(6, 9999)", x.together(6, 9999), 10007);
        due(24, "together(5, 0)", x.together(5, 0), NONE);
        due(24, "together(8, 0)", x.together(8, 0), BAD);
        due(24, "together(-1, 0)", x.together(-1, 0), BAD);
        due(24, "together(1, 10000)", x.together(1, 10000), BAD);
        due(24, "together(1, -1)", x.together(1, -1), BAD);
        RoundAndUp late = new RoundAndUp();
        late.animal(1, 11, 1, 0);
        late.animal(1, 9, 1, 0);
        late.animal(1, 10, 1, 0);
        due(24, "the first of them, 989", late.together(7, 0), 989);
        due(24, "989 itself", late.together(7, 989), 989);
        due(24, "the next is 1979", late.together(7, 990), 1979);
        late.animal(1, 7, 3, 0);
        late.change(0, 2, 7);
        late.change(1, 2, 3);
        late.change(2, 2, 5);
        due(24, "1005 is the last of 1000 turns", late.together(15, 6), 1005);
        due(24, "1005 is one too far", late.together(15, 5), NONE);
        RoundAndUp lame = new RoundAndUp();
        lame.animal(4, 5, 3, 0);
        lame.animal(4, 9, 2, 0);
        due(23, "1000 would be the first", lame.organ(0, 48, 40), NONE);
        due(23, "999 is the first", lame.organ(1, 47, 12), 999);
        text(lame, "animal if crank = 5 stop; animal slow;");
        due(23, "down never with phase 3", lame.organ(0, 48, 0), NONE);
        lame.change(1, 2, 4);
        due(23, "slow: 5 teeth by 9 turns", lame.organ(1, 3, 0), 9);
        due(24, "slow: 5 teeth by 9 turns", lame.together(2, 0), 9);
    }

    private static void slippedCranks() {
        RoundAndUp x = horses(3, 6);
        x.change(1, 2, 5);
        // In turn 2 all others are at place 2; a slip by 1 lifts 0 or 2; animal 1 is at place 1.
        due(25, "slipped(2, 1)", x.slipped(2, 1), 0);
        due(25, "slipped(2, 4)", x.slipped(2, 4), 2);
        due(25, "slipped(2, 0)", x.slipped(2, 0), 1);
        due(25, "slipped(2, 2)", x.slipped(2, 2), NONE);
        due(25, "slipped(3, 4): 0 goes down", x.slipped(3, 4), 0);
        due(25, "slipped(3, 7): 1 comes up", x.slipped(3, 7), 1);
        due(25, "phases stay", x.animalOf(1, 2), 5);
        due(25, "slipped(2, 8)", x.slipped(2, 8), BAD);
        due(25, "slipped(2, -1)", x.slipped(2, -1), BAD);
        due(25, "slipped(-1, 0)", x.slipped(-1, 0), BAD);
        due(25, "slipped(10000, 0)", x.slipped(10000, 0), BAD);
        text(x, "animal if phase = 1 stop;");
        due(25, "the rules ask by the phase behind the slip", x.slipped(2, 1), NONE);
        due(25, "without animals", new RoundAndUp().slipped(0, 0), NONE);
        RoundAndUp nine = horses(9, 6);
        nine.change(8, 2, 11);
        due(25, "the ninth, by phase 11: 0 behind it", nine.slipped(3, 511), 8);
        due(25, "of those that change nothing the least", nine.slipped(1, 0), 0);
        due(25, "slipped(2, 2)", nine.slipped(2, 2), 1);
    }

    private static void childrenTold() {
        RoundAndUp x = five();
        due(26, "child(31, 999)", x.child(31, 999), 0);
        due(26, "child(0, 0)", x.child(0, 0), 1);
        due(26, "child(32, 0)", x.child(32, 0), BAD);
        due(26, "child(-1, 0)", x.child(-1, 0), BAD);
        due(26, "child(1, -1)", x.child(1, -1), BAD);
        due(26, "child(1, 1000)", x.child(1, 1000), BAD);
        due(27, "childOf(0, 0)", x.childOf(0, 0), 31);
        due(27, "childOf(0, 1)", x.childOf(0, 1), 999);
        due(27, "childOf(0, 2)", x.childOf(0, 2), -9);
        due(27, "childOf(0, 3)", x.childOf(0, 3), BAD);
        due(27, "childOf(0, -1)", x.childOf(0, -1), BAD);
        due(27, "childOf(2, 0)", x.childOf(2, 0), BAD);
        due(27, "childOf(-1, 0)", x.childOf(-1, 0), BAD);
        due(28, "coins(0, 0)", x.coins(0, 0), 999);
        due(28, "coins(0, 999)", x.coins(0, 999), 0);
        due(28, "coins(0, 1000)", x.coins(0, 1000), BAD);
        due(28, "coins(0, -1)", x.coins(0, -1), BAD);
        due(28, "coins(2, 1)", x.coins(2, 1), BAD);
        due(28, "childOf(0, 1)", x.childOf(0, 1), 999);
        for (int c = 2; c < 8; c++) {
            due(26, "child(1, 1)", x.child(1, 1), c);
        }
        due(26, "a ninth", x.child(1, 1), FULL);
        due(26, "a wrong ninth", x.child(1, 1000), BAD);
        due(32, "away()", x.away(), 8);
        due(32, "away()", x.away(), 0);
        due(32, "childOf(0, 0)", x.childOf(0, 0), BAD);
        due(26, "child(1, 1)", x.child(1, 1), 0);
        due(27, "a new one has not ridden", x.childOf(0, 2), -9);
    }

    private static void seatings() {
        // PRICES NOW 5, 20, 7, 20, 8.
        RoundAndUp x = five();
        due(29, "without children", x.seats(), 0);
        x.child(1 | 4, 7);
        x.child(1, 5);
        due(29, "0 makes room for 1", x.seats(), 12);
        due(30, "seat(0)", x.seat(0), 2);
        due(30, "seat(1)", x.seat(1), 0);
        due(30, "seat(2)", x.seat(2), BAD);
        due(30, "seat(-1)", x.seat(-1), BAD);
        x.coins(0, 6);
        due(29, "7 is too dear for 6", x.seats(), 5);
        due(30, "the first one sits", x.seat(0), 0);
        due(30, "seat(1)", x.seat(1), NONE);
        x.child(2 | 8, 20);
        due(30, "of two as dear the least", x.seat(2), 1);
        x.child(2, 20);
        due(30, "makes room", x.seat(2), 3);
        due(30, "seat(3)", x.seat(3), 1);
        RoundAndUp free = five();
        text(free, "animal free;");
        free.child(6, 0);
        free.child(2, 0);
        free.child(0, 9);
        due(29, "all free", free.seats(), 0);
        due(30, "rides for nothing ahead of on none", free.seat(0), 1);
        due(30, "it is taken", free.seat(1), NONE);
        due(30, "no wish", free.seat(2), NONE);
        RoundAndUp dear = five();
        text(dear, "horse if number = 0 dear 90; swan stop;");
        dear.child(31, 94);
        due(29, "95 is too dear for 94", dear.seats(), 20);
        due(30, "seat(0)", dear.seat(0), 1);
        dear.coins(0, 95);
        due(29, "95 is the price now", dear.seats(), 95);
        due(30, "seat(0)", dear.seat(0), 0);
        due(31, "ride()", dear.ride(), 1);
        due(31, "it pays the price now", dear.childOf(0, 1), 0);
        RoundAndUp full = horses(9, 4);
        for (int c = 0; c < 8; c++) {
            full.child(511, 99);
        }
        due(29, "eight on the eight dearest", full.seats(), 36);
        due(30, "seat(0)", full.seat(0), 1);
        due(30, "seat(7)", full.seat(7), 8);
    }

    private static void riding() {
        RoundAndUp x = five();
        due(31, "nobody", x.ride(), 0);
        x.child(3, 45);
        x.child(16, 7);
        x.child(1, 5);
        due(31, "ride()", x.ride(), 2);
        due(31, "twice the price of a swan", x.childOf(0, 1), 25);
        due(31, "childOf(0, 2)", x.childOf(0, 2), 1);
        due(31, "childOf(1, 1)", x.childOf(1, 1), 7);
        due(31, "childOf(1, 2)", x.childOf(1, 2), -9);
        due(31, "childOf(2, 1)", x.childOf(2, 1), 0);
        due(31, "childOf(2, 2)", x.childOf(2, 2), 0);
        due(31, "ride()", x.ride(), 1);
        due(31, "childOf(0, 1)", x.childOf(0, 1), 5);
        due(31, "ride()", x.ride(), 1);
        due(31, "the latest", x.childOf(0, 2), 0);
        due(31, "childOf(0, 1)", x.childOf(0, 1), 0);
        due(31, "ride()", x.ride(), 0);
        due(31, "stays", x.childOf(0, 2), 0);
    }

    private static void photographs() {
        RoundAndUp x = five();
        due(33, "photo(5, 0, 0)", x.photo(5, 0, 0), BAD);
        due(33, "photo(0, -1, 0)", x.photo(0, -1, 0), BAD);
        due(33, "photo(0, 10000, 0)", x.photo(0, 10000, 0), BAD);
        due(33, "photo(0, 0, -1)", x.photo(0, 0, -1), BAD);
        due(33, "photo(0, 0, 10)", x.photo(0, 0, 10), BAD);
        due(35, "without photos", x.fits(2), 31);
        due(33, "photo(0, 9999, 3)", x.photo(0, 9999, 3), 0);
        due(35, "fits(0): 9999 is 7 modulo 8", x.fits(0), 1 << 4 | 1 << 6);
        due(33, "photo(0, 0, 2)", x.photo(0, 0, 2), 1);
        due(35, "fits(0)", x.fits(0), 1 << 6);
        due(35, "others are not told of", x.fits(3), 4095);
        due(35, "fits(5)", x.fits(5), BAD);
        due(35, "fits(-1)", x.fits(-1), BAD);
        for (int k = 2; k < 6; k++) {
            due(33, "photo(3, 0, 9)", x.photo(3, 0, 9), k);
        }
        due(33, "a seventh", x.photo(3, 0, 9), FULL);
        due(33, "a wrong seventh", x.photo(3, 0, 10), BAD);
        due(34, "burn()", x.burn(), 6);
        due(34, "burn()", x.burn(), 0);
        due(35, "fits(0)", x.fits(0), 255);
        x.photo(3, 0, 1);
        due(35, "a white one down", x.fits(3), 1);
        text(x, "horse if phase = 4 stop;");
        x.photo(0, 1, 4);
        due(35, "the rules ask by it", x.fits(0), 1 << 3 | 1 << 4);
    }

    private static void liars() {
        RoundAndUp x = horses(2, 8);
        due(36, "without photos", x.liar(0), NONE);
        x.photo(1, 0, 9);
        x.photo(0, 0, 4);
        x.photo(0, 1, 3);
        due(36, "some fit", x.liar(0), NONE);
        x.photo(0, 2, 1);
        due(36, "the third tells wrong", x.liar(0), 3);
        due(36, "one alone that can't be", x.liar(1), 0);
        due(36, "liar(2)", x.liar(2), BAD);
        due(36, "liar(-1)", x.liar(-1), BAD);
        x.photo(0, 4, 4);
        due(36, "two wrong, none but for which some fit", x.liar(0), NONE);
        x.burn();
        x.photo(0, 0, 4);
        x.photo(0, 0, 0);
        due(36, "of two the least", x.liar(0), 0);
        x.burn();
        x.photo(0, 0, 4);
        x.photo(0, 1, 3);
        x.photo(0, 2, 4);
        due(36, "phase 4 but for the third, phase 2 but for the first", x.liar(0), 0);
        x = horses(1, 4);
        text(x, "animal if phase = 4 stop;");
        for (int t = 0; t < 4; t++) {
            x.photo(0, t, t == 3 ? 3 : 0);
        }
        due(36, "phases below the crank alone", x.liar(0), NONE);
    }

    private static void rowsProved() {
        RoundAndUp x = five();
        due(37, "prove(5, 0, 1)", x.prove(5, 0, 1), BAD);
        due(37, "prove(0, 10000, 1)", x.prove(0, 10000, 1), BAD);
        due(37, "prove(0, -1, 1)", x.prove(0, -1, 1), BAD);
        due(37, "prove(0, 0, 0)", x.prove(0, 0, 0), BAD);
        due(37, "prove(0, 0, 21)", x.prove(0, 0, 21), BAD);
        due(37, "many(4)", x.many(4), 0);
        due(37, "prove(3, 9999, 20)", x.prove(3, 9999, 20), 20);
        due(38, "row(0, 0)", x.row(0, 0), 9999);
        due(38, "row(0, 1): 10001 modulo 12", x.row(0, 1), 5);
        due(38, "row(0, 2)", x.row(0, 2), 6);
        due(38, "row(19, 0)", x.row(19, 0), 10018);
        due(38, "row(20, 0)", x.row(20, 0), -9);
        due(38, "row(-1, 0)", x.row(-1, 0), -9);
        due(38, "row(0, 3)", x.row(0, 3), -9);
        due(38, "row(0, -1)", x.row(0, -1), -9);
        due(37, "prove(3, 0, 2): fewer", x.prove(3, 0, 2), 2);
        due(38, "row(2, 0)", x.row(2, 0), -9);
        due(39, "alterRow(1, 2, MIN)", x.alterRow(1, 2, MIN), 4);
        due(39, "row(1, 2)", x.row(1, 2), MIN);
        due(39, "alterRow(1, 2, 4)", x.alterRow(1, 2, 4), MIN);
        due(39, "alterRow(2, 0, 5)", x.alterRow(2, 0, 5), -9);
        due(39, "alterRow(0, 3, 5)", x.alterRow(0, 3, 5), -9);
        due(39, "alterRow(-1, 0, 5)", x.alterRow(-1, 0, 5), -9);
        due(37, "a wrong one leaves them", x.prove(3, 0, 21), BAD);
        due(37, "many(4)", x.many(4), 2);
    }

    private static void judging() {
        RoundAndUp x = five();
        due(40, "no rows", x.judge(0), 0);
        due(40, "judge(5)", x.judge(5), BAD);
        due(40, "judge(-1)", x.judge(-1), BAD);
        x.prove(0, 3, 3);
        due(40, "judge(0)", x.judge(0), 0);
        due(40, "of another", x.judge(1), 1);
        x.prove(0, 0, 20);
        due(40, "turns 0 to 19", x.judge(0), 0);
        text(x, "animal if price = 5 slow;");
        due(40, "it goes slowly now", x.judge(0), 2);
        x.prove(0, 0, 20);
        due(37, "row(19, 1): 9 teeth", x.row(19, 1), 1);
        due(40, "judge(0)", x.judge(0), 0);
        text(x, "");
        x.prove(0, 3, 3);
        x.alterRow(1, 1, 5);
        due(40, "a wrong place", x.judge(0), 2);
        x.alterRow(1, 1, 4);
        x.alterRow(2, 2, 4);
        due(40, "a wrong height", x.judge(0), 3);
        x.alterRow(2, 2, 3);
        x.alterRow(2, 0, 13);
        due(40, "a turn that doesn't follow, place and height right", x.judge(0), 3);
        x.alterRow(2, 0, 5);
        x.alterRow(0, 0, 3 + 8);
        due(40, "the first may tell any; the second doesn't follow", x.judge(0), 2);
        x.prove(0, 7, 2);
        x.alterRow(0, 0, 99999);
        due(40, "99999 is 7 modulo 8", x.judge(0), 2);
        x.prove(0, 7, 1);
        x.alterRow(0, 0, 99999);
        due(40, "99999 may be told", x.judge(0), 0);
        x.alterRow(0, 0, 99999 + 8);
        due(40, "100007 may not", x.judge(0), 1);
        x.alterRow(0, 0, -1);
        due(40, "-1 may not", x.judge(0), 1);
        x.prove(0, 7, 2);
        x.alterRow(0, 0, 99999);
        x.alterRow(1, 0, 100000);
        due(40, "100000 follows 99999 and may not", x.judge(0), 2);
        x.alterRow(0, 0, MAX);
        x.alterRow(1, 0, MIN);
        due(40, "MAX", x.judge(0), 1);
    }

    private static void sheetsMade() {
        RoundAndUp x = new RoundAndUp();
        due(41, "sheet(4, 0, 1)", x.sheet(4, 0, 1), BAD);
        due(41, "sheet(-1, 0, 1)", x.sheet(-1, 0, 1), BAD);
        due(41, "sheet(0, 5, 1)", x.sheet(0, 5, 1), BAD);
        due(41, "sheet(0, -2, 1)", x.sheet(0, -2, 1), BAD);
        due(41, "sheet(0, 0, 41)", x.sheet(0, 0, 41), BAD);
        due(41, "sheet(0, 5, -1)", x.sheet(0, 5, -1), BAD);
        due(41, "sheet(0, 0, -1)", x.sheet(0, 0, -1), -14);
        due(41, "sheet(0, 0, MIN)", x.sheet(0, 0, MIN), -14);
        due(41, "still missing", x.write(0, 0, 1), -11);
        due(41, "sheet(0, 2, 40)", x.sheet(0, 2, 40), 1);
        due(42, "write(0, 39, 7)", x.write(0, 39, 7), 1);
        due(42, "write(0, 40, 7)", x.write(0, 40, 7), -12);
        due(42, "write(0, -1, 7)", x.write(0, -1, 7), -12);
        due(42, "write(4, 0, 7)", x.write(4, 0, 7), BAD);
        due(42, "write(-1, 0, 7)", x.write(-1, 0, 7), BAD);
        due(42, "write(1, 0, 7)", x.write(1, 0, 7), -11);
        due(43, "item(0, 2, 39)", x.item(0, 2, 39), 7);
        due(41, "a wrong one leaves it", x.sheet(0, 0, -1), -14);
        due(43, "item(0, 2, 39)", x.item(0, 2, 39), 7);
        due(41, "made anew it is all 0", x.sheet(0, 2, 40), 1);
        due(43, "item(0, 2, 39)", x.item(0, 2, 39), 0);
        due(41, "missing, whatever n", x.sheet(0, -1, -5), 1);
        due(42, "write(0, 0, 1)", x.write(0, 0, 1), -11);
        due(41, "missing, whatever n", x.sheet(0, -1, 41), 1);
        due(41, "a row of none", x.sheet(0, 4, 0), 1);
        due(42, "write(0, 0, 1)", x.write(0, 0, 1), -12);
    }

    private static void itemsRead() {
        RoundAndUp x = new RoundAndUp();
        int[][] narrowed = {{300, 44, 300, 300, 300, 1}, {-129, 127, -129, -129, -129, 1}, {40000, 64, -25536, 40000, 40000, 1}, {0, 0, 0, 0, 0, 0}, {MIN, 0, 0, MIN, MIN, 1}, {-12, -12, -12, -12, -12, 1}};
        for (int sort = 0; sort <= 4; sort++) {
            x.sheet(3, sort, 2);
            for (int[] row : narrowed) {
                due(42, "write(3, 1, " + row[0] + ")", x.write(3, 1, row[0]), 1);
                due(42, row[0] + " as sort " + sort, x.item(3, sort, 1), row[sort + 1]);
                due(42, "the one beside", x.item(3, sort, 0), 0);
            }
            for (int other = 0; other <= 4; other++) {
                due(43, "sort " + sort + " taken for " + other, x.item(3, other, 2), other == sort ? -12 : -13);
            }
        }
        due(43, "item(3, 4, -1)", x.item(3, 4, -1), -12);
        due(43, "item(3, 5, 0)", x.item(3, 5, 0), BAD);
        due(43, "item(3, -1, 0)", x.item(3, -1, 0), BAD);
        due(43, "item(4, 0, 0)", x.item(4, 0, 0), BAD);
        due(43, "item(2, 0, 50)", x.item(2, 0, 50), -11);
    }

    private static void setsOfPhases() {
        RoundAndUp x = five();
        x.sheet(1, 0, 7);
        int[] items = {9, 4, 12, 11, -1, 6, 0};
        for (int k = 0; k < items.length; k++) {
            x.write(1, k, items[k]);
        }
        due(44, "sets(1, 1, 5)", x.sets(1, 1, 5), 3);
        int[] phases = {4, 3, 11, 2, 6};
        for (int i = 0; i < 5; i++) {
            due(44, "animalOf(" + i + ", 2)", x.animalOf(i, 2), phases[i]);
        }
        due(44, "more than there are animals", x.sets(1, 0, 7), 3);
        due(44, "outside: what stood ahead came", x.sets(1, 5, 3), -12);
        due(44, "animalOf(0, 2)", x.animalOf(0, 2), 6);
        due(44, "animalOf(1, 2)", x.animalOf(1, 2), 0);
        due(44, "animalOf(2, 2)", x.animalOf(2, 2), 11);
        due(44, "sets(1, -1, 2)", x.sets(1, -1, 2), -12);
        due(44, "sets(1, MAX, 9)", x.sets(1, MAX, 9), -12);
        due(44, "none came", x.animalOf(0, 2), 6);
        due(44, "sets(1, 0, 0)", x.sets(1, 0, 0), 0);
        due(44, "sets(1, 0, -1)", x.sets(1, 0, -1), BAD);
        due(44, "sets(1, 0, 10)", x.sets(1, 0, 10), BAD);
        due(44, "sets(4, 0, 1)", x.sets(4, 0, 1), BAD);
        due(44, "sets(0, 0, 1)", x.sets(0, 0, 1), -11);
        due(44, "0 items of a missing one", x.sets(0, 0, 0), -11);
        due(44, "0 items outside of a missing one", x.sets(0, -1, 0), -11);
        x.sheet(2, 4, 7);
        due(44, "sets(2, 0, 1)", x.sets(2, 0, 1), -13);
        due(44, "0 items of another sort", x.sets(2, 0, 0), -13);
        x.sheet(2, 0, 0);
        due(44, "0 items of an empty row", x.sets(2, 0, 0), 0);
        due(44, "1 item of an empty row", x.sets(2, 0, 1), -12);
        x.sheet(1, -1, 0);
        due(44, "0 items of one that is missing again", x.sets(1, 0, 0), -11);
        due(44, "0 items of a missing one on a new object", new RoundAndUp().sets(3, 0, 0), -11);
    }

    private static void shelvesHeld() {
        RoundAndUp x = five();
        due(45, "shelf(4, 0, 0)", x.shelf(4, 0, 0), BAD);
        due(45, "shelf(-1, 0, 0)", x.shelf(-1, 0, 0), BAD);
        due(45, "shelf(0, 3, 0)", x.shelf(0, 3, 0), BAD);
        due(45, "shelf(0, -1, 0)", x.shelf(0, -1, 0), BAD);
        due(45, "shelf(0, 0, 5)", x.shelf(0, 0, 5), BAD);
        due(45, "shelf(0, 1, 4)", x.shelf(0, 1, 4), BAD);
        int[][] under = {{1, 1, 0, 0, 0, 0}, {1, 0, 1, 0, 0, 0}, {1, 0, 0, 0, 1, 0}, {1, 1, 0, 1, 0, 0}, {1, 0, 1, 0, 0, 1}};
        for (int i = 0; i < 5; i++) {
            due(45, "shelf(1, 0, " + i + ")", x.shelf(1, 0, i), 1);
            for (int as = 0; as <= 5; as++) {
                due(46, "animal " + i + " taken for " + as, x.taken(1, as), under[i][as] == 1 ? i : -13);
            }
            due(46, "animal " + i + " taken for a row", x.taken(1, 10), -13);
        }
        due(45, "a wrong one leaves it", x.shelf(1, 0, 9), BAD);
        due(46, "taken(1, 0)", x.taken(1, 0), 4);
        x.sheet(2, 3, 17);
        due(45, "shelf(1, 1, 2)", x.shelf(1, 1, 2), 1);
        due(46, "taken(1, 13)", x.taken(1, 13), 17);
        due(46, "taken(1, 12)", x.taken(1, 12), -13);
        due(46, "taken(1, 3)", x.taken(1, 3), -13);
        x.sheet(2, 0, 5);
        due(46, "the row that was shelved stays there", x.taken(1, 13), 17);
        x.sheet(2, -1, 0);
        due(46, "the row that was shelved stays there", x.taken(1, 13), 17);
        due(45, "a missing one", x.shelf(1, 1, 2), 1);
        due(46, "is nothing", x.taken(1, 13), -11);
        due(46, "is nothing", x.taken(1, 0), -11);
        x.shelf(1, 0, 3);
        due(45, "nothing, whatever n", x.shelf(1, 2, 99), 1);
        due(46, "taken(1, 0)", x.taken(1, 0), -11);
        int[] bad = {-1, 6, 9, 15, MIN, MAX};
        for (int as : bad) {
            due(46, "taken(1, " + as + ")", x.taken(1, as), BAD);
        }
        due(46, "taken(4, 0)", x.taken(4, 0), BAD);
        due(46, "taken(-1, 0)", x.taken(-1, 0), BAD);
    }

    private static void traceIs(RoundAndUp x, String call, int... bodies) {
        due(49, "many(6) after " + call, x.many(6), bodies.length);
        for (int k = 0; k < bodies.length; k++) {
            due(48, "trace(" + k + ") after " + call, x.trace(k), bodies[k]);
        }
        due(48, "trace() beyond " + call, x.trace(bodies.length), NONE);
        due(48, "trace(-1) after " + call, x.trace(-1), NONE);
    }

    private static void actsDone() {
        RoundAndUp x = five();
        x.shelf(0, 0, 0);
        due(47, "horse lifts", x.act(0, 0, 5), 15);
        traceIs(x, "horse lifts", 20, 10);
        due(47, "horse turns", x.act(0, 1, MAX), (MAX * 3) * 2);
        traceIs(x, "horse turns", 11, 20, 10);
        due(47, "horse shares", x.act(0, 2, -17), -2);
        traceIs(x, "horse shares", 12);
        due(47, "horse tells", x.act(0, 3, 5), 22);
        traceIs(x, "horse tells", 13, 11, 20, 10);
        x.shelf(0, 0, 1);
        due(47, "swan turns: (x + 1) * 2 - 6", x.act(0, 1, 9), 14);
        traceIs(x, "swan turns", 30, 11, 10);
        due(47, "swan tells", x.act(0, 3, 9), 14 ^ 6);
        traceIs(x, "swan tells", 13, 30, 11, 10);
        x.shelf(0, 0, 2);
        due(47, "lame shares: 10 by 3", x.act(0, 2, 9), 3);
        traceIs(x, "lame shares", 40, 12);
        due(47, "lame lifts", x.act(0, 0, MAX), MIN + 1);
        x.shelf(0, 0, 3);
        due(47, "white lifts: 24 ^ 3", x.act(0, 0, 5), 27);
        traceIs(x, "white lifts", 50, 20, 10);
        due(47, "white tells: (54 ^ 12) + 3 / 9", x.act(0, 3, 5), 58);
        traceIs(x, "white tells", 51, 13, 11, 50, 20, 10, 12);
        x.change(3, 1, 4);
        due(47, "white tells: (54 ^ 4) + 3 / 1", x.act(0, 3, 5), (54 ^ 4) + 3);
        x.shelf(0, 0, 4);
        due(47, "ostrich turns: 0 - (-6 - 7)", x.act(0, 1, -7), 13);
        traceIs(x, "ostrich turns", 60, 30, 11, 10);
        due(47, "ostrich shares: -7 / 3 + 11", x.act(0, 2, -7), 9);
        traceIs(x, "ostrich shares", 61, 12, 10);
        due(47, "ostrich tells", x.act(0, 3, -7), 13 ^ 7);
        traceIs(x, "ostrich tells", 13, 60, 30, 11, 10);
        due(47, "act(0, 4, 1)", x.act(0, 4, 1), 0);
        traceIs(x, "a wrong act");
        x.act(0, 0, 1);
        due(47, "act(0, -1, 1)", x.act(0, -1, 1), 0);
        traceIs(x, "a wrong act");
        x.act(0, 0, 1);
        due(47, "act(4, 0, 1)", x.act(4, 0, 1), 0);
        traceIs(x, "no shelf");
        x.act(0, 0, 1);
        due(47, "act(1, 0, 1)", x.act(1, 0, 1), 0);
        traceIs(x, "nothing");
        x.sheet(0, 0, 1);
        x.shelf(1, 1, 0);
        x.act(0, 0, 1);
        due(47, "act(1, 0, 1)", x.act(1, 0, 1), 0);
        traceIs(x, "a row");
        due(49, "many(7)", x.many(7), BAD);
        due(49, "many(-1)", x.many(-1), BAD);
    }

    private static void actsParted() {
        RoundAndUp x = horses(9, 5);
        x.shelf(0, 0, 5);
        due(47, "horse shares by 0", x.act(0, 2, 5), -15);
        traceIs(x, "horse shares by 0", 12);
        due(47, "horse tells all the same", x.act(0, 3, 5), 60 ^ 5);
        x.paint(5, 3);
        due(47, "white shares by 0", x.act(0, 2, 5), -15);
        due(47, "white tells by 0", x.act(0, 3, 5), -15);
        traceIs(x, "white tells by 0", 51, 13, 11, 50, 20, 10, 12);
        x.paint(5, 5);
        due(47, "ostrich shares by 0", x.act(0, 2, 5), -15);
        traceIs(x, "ostrich shares by 0", 61, 12);
        x.paint(5, 4);
        due(47, "lame shares by 0", x.act(0, 2, 5), -15);
        traceIs(x, "lame shares by 0", 40, 12);
        due(47, "and lifts after it", x.act(0, 0, 5), 10);
        x.shelf(1, 0, 6);
        due(47, "by -1, wrapping", x.act(1, 2, MIN), MIN);
        x.shelf(2, 0, 8);
        due(47, "by -3, towards 0", x.act(2, 2, 8), -2);
    }

    private static void kept() {
        RoundAndUp x = five();
        text(x, "horse slow;");
        x.level(4);
        x.turn(6);
        x.child(3, 50);
        x.ride();
        x.photo(0, 3, 1);
        due(50, "keep()", x.keep(), 1);
        x.animal(1, 4, 0, 0);
        x.paint(0, 2);
        x.change(1, 1, 11);
        x.change(1, 2, 10);
        x.change(1, 3, 98);
        x.level(1);
        x.turn(7);
        x.child(32, 1);
        x.coins(0, 7);
        x.burn();
        x.photo(5, 1, 1);
        x.photo(5, 2, 1);
        text(x, "");
        x.feed('h', 1);
        x.prove(5, 0, 4);
        x.sheet(0, 2, 3);
        x.write(0, 0, 77);
        x.shelf(0, 0, 5);
        x.shelf(1, 0, 0);
        x.act(0, 0, 9);
        for (int k = 0; k < 2; k++) {
            due(51, "again()", x.again(), 5);
            int[] now = {5, 1, 1, 1, 4, 1};
            for (int what = 0; what < 6; what++) {
                due(51, "many(" + what + ")", x.many(what), now[what]);
            }
            due(51, "animalOf(0, 0)", x.animalOf(0, 0), 1);
            due(51, "animalOf(0, 5)", x.animalOf(0, 5), 1);
            due(51, "animalOf(1, 1)", x.animalOf(1, 1), 6);
            due(51, "animalOf(1, 2)", x.animalOf(1, 2), 3);
            due(51, "animalOf(1, 3)", x.animalOf(1, 3), 10);
            due(51, "animalOf(3, 6) in turn 6: slow, place 5", x.animalOf(3, 6), 6);
            due(51, "childOf(0, 1)", x.childOf(0, 1), 30);
            due(51, "childOf(0, 2)", x.childOf(0, 2), 1);
            due(51, "fits(0): the photo, a tooth gone by turn 3", x.fits(0), 1 << 0 | 1 << 6);
            due(50, "the rows are as they were", x.row(3, 0), 3);
            due(50, "the sheets are", x.item(0, 2, 0), 77);
            due(50, "the trace is", x.trace(1), 10);
            due(50, "a shelf with no such animal", x.taken(0, 0), -11);
            due(50, "act of no such animal", x.act(0, 0, 9), 0);
            due(50, "a shelf by its number", x.taken(1, 1), 0);
            due(51, "level(2)", x.level(2), 4);
            due(51, "turn(1)", x.turn(1), 7);
            x.act(1, 0, 1);
            x.coins(0, 3);
            x.change(1, 2, 9);
        }
        due(50, "keep() once more", x.keep(), 1);
        x.coins(0, 1);
        due(51, "again()", x.again(), 5);
        due(51, "the latest", x.childOf(0, 1), 3);
        due(51, "the latest", x.animalOf(1, 2), 9);
        due(51, "level(7)", x.level(7), 2);
        due(10, "the byte that is on the tape still", x.rules(), -100);
        text(x, "lame if 1 = 2 free; lame if number = 2 dear 4; animal if number > 0 dear 1; animal if number = 0 dear 2;");
        x.keep();
        text(x, "animal if level < 9 free;");
        x.again();
        int[] price = {7, 22, 11, 21, 10};
        for (int i = 0; i < 5; i++) {
            due(51, "animalOf(" + i + ", 4) by the rules kept", x.animalOf(i, 4), price[i]);
        }
        RoundAndUp nine = horses(9, 4);
        String eight = "";
        for (int k = 0; k < 8; k++) {
            eight += "animal if number=" + k + " free;";
        }
        due(10, "eight rules with conditions", text(nine, eight), 8);
        nine.child(128, 9);
        nine.child(256, 9);
        nine.ride();
        nine.keep();
        nine.away();
        nine.child(1, 1);
        text(nine, "animal slow;");
        due(51, "again() with nine", nine.again(), 9);
        due(51, "animalOf(7, 4) by the eighth rule", nine.animalOf(7, 4), 0);
        due(51, "animalOf(8, 4) by none", nine.animalOf(8, 4), 8);
        due(51, "childOf(0, 0)", nine.childOf(0, 0), 128);
        due(51, "childOf(0, 2)", nine.childOf(0, 2), 7);
        due(51, "childOf(1, 1)", nine.childOf(1, 1), 1);
        RoundAndUp y = new RoundAndUp();
        y.keep();
        y.animal(1, 4, 0, 0);
        due(51, "nothing was there", y.again(), 0);
        due(51, "many(0)", y.many(0), 0);
    }
}
