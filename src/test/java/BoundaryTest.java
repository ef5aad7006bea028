import java.nio.file.Files;
import java.nio.file.Path;
import java.util.ArrayList;
import java.util.HashMap;
import java.util.List;
import java.util.Map;
import java.util.function.ToIntFunction;

/**
 * One test for each sentence of the document that names a boundary case: too small, too large, empty, full, a
 * wrap-around, a refused call. Each stands under the words that it speaks of, makes objects of its own, and has answers
 * worked out by hand. The words must stand in ../shared/DOC.md, under the heading that is told.
 */
public final class BoundaryTest {
    private static final int BAD = -1, FULL = -2, NONE = -3, STATE = -4;
    private static final int NOTHING = -11, OUTSIDE = -12, SORT = -13, SIZE = -14, PARTED = -15;
    private static final int MAX = Integer.MAX_VALUE, MIN = Integer.MIN_VALUE;
    private static final int HORSE = 1, SWAN = 2, WHITE = 3, LAME = 4, OSTRICH = 5;
    private static final Path DOCUMENT = Path.of("../shared/DOC.md");
    private static final Map<String, String> sections = new HashMap<>();
    private static final boolean[] isSpokenOf = new boolean[52];
    private static String sentence = "";
    private static int sentences = 0;
    private static int wrong = 0;

    // ---- how a test is told

    private static void due(String call, long got, long want) {
        if (got != want) {
            wrong++;
            System.out.println(sentence + ": " + call + " answered " + got + ", due is " + want);
        }
    }

    private static void says(String section, String words, Runnable test) {
        sentence = section + ", \"" + words + "\"";
        sentences++;
        String all = sections.get(section);
        if (!sections.isEmpty() && (all == null || !all.contains(words))) {
            wrong++;
            System.out.println("the document doesn't say: " + sentence);
        }
        test.run();
    }

    private static void terms(String words, Runnable test) {
        says("Terms", words, test);
    }

    private static void promise(int n, String words, Runnable test) {
        isSpokenOf[n] = true;
        says("Promise " + n, words, test);
    }

    private static void readDocument() throws Exception {
        String section = "";
        StringBuilder words = new StringBuilder();
        for (String line : Files.readAllLines(DOCUMENT)) {
            if (line.startsWith("## ")) {
                sections.put(section, words.toString());
                section = line.startsWith("## Promise ") ? line.substring(3, line.indexOf(':')) : line.substring(3);
                words.setLength(0);
            } else if (!line.startsWith("```")) {
                words.append(line.trim().replaceAll(" +", " ")).append(' ');
            }
        }
        sections.put(section, words.toString());
    }

    // ---- rings to ask

    /** ANIMALS, four numbers each: KIND, CRANK, PHASE, PRICE. */
    private static RoundAndUp ring(int... fours) {
        RoundAndUp x = new RoundAndUp();
        for (int k = 0; k + 3 < fours.length; k += 4) {
            x.animal(fours[k], fours[k + 1], fours[k + 2], fours[k + 3]);
        }
        return x;
    }

    /** Horses of a CRANK, one for each PHASE, of PRICE 0. */
    private static RoundAndUp horses(int crank, int... phases) {
        RoundAndUp x = new RoundAndUp();
        for (int phase : phases) {
            x.animal(HORSE, crank, phase, 0);
        }
        return x;
    }

    private static RoundAndUp nine() {
        return horses(12, 0, 0, 0, 0, 0, 0, 0, 0, 0);
    }

    /** HIGH by LEVEL 3 in turns 3, 9, 15, 21 (the lame one, too); then together in 237 at the soonest. */
    private static RoundAndUp seldom() {
        return ring(HORSE, 6, 0, 0, LAME, 7, 0, 0);
    }

    /** Of eight ANIMALS the first has a RING in turns .., 120, 136, 152; then in 448 at the soonest. */
    private static RoundAndUp eightOfALame() {
        RoundAndUp x = ring(LAME, 9, 0, 0);
        for (int k = 1; k < 8; k++) {
            x.animal(HORSE, 2, 0, 0);
        }
        x.level(4);
        text(x, "lame slow;");
        return x;
    }

    private static void feedText(RoundAndUp x, String s) {
        for (int at = 0; at < s.length(); at += 8) {
            long eight = 0;
            int n = Math.min(8, s.length() - at);
            for (int k = 0; k < n; k++) {
                eight |= (long) s.charAt(at + k) << 8 * k;
            }
            x.feed(eight, n);
        }
    }

    /** Feeds a text and has it read; answers what rules() does. */
    private static int text(RoundAndUp x, String s) {
        feedText(x, s);
        return x.rules();
    }

    /** Whether a condition holds for a horse of CRANK 8, PHASE 11, PRICE 7, number 0, by LEVEL 3: 1 or 0; or what rules() answers. */
    private static int holds(String condition) {
        RoundAndUp x = ring(HORSE, 8, 11, 7);
        int rules = text(x, "animal if " + condition + " stop;");
        return rules == 1 ? x.animalOf(0, 5) / 2 : rules;
    }

    private static void dueText(String s, int want) {
        due("rules() of '" + s + "'", text(new RoundAndUp(), s), want);
    }

    private static void dueFault(String s, int place) {
        dueText(s, -100 - place);
    }

    /** A text that is whole has no FAULT: none or one RULE then. */
    private static void dueFault(String s, int place, boolean isWhole) {
        dueText(s, isWhole ? (s.isBlank() ? 0 : 1) : -100 - place);
    }

    private static void turns(RoundAndUp x, int n) {
        int left = n;
        while (left > 0) {
            x.turn(Math.min(500, left));
            left -= 500;
        }
    }

    private static void dueHeights(RoundAndUp x, int i, int[] turns, int[] heights) {
        for (int k = 0; k < turns.length; k++) {
            due("height(" + i + ", " + turns[k] + ")", x.height(i, turns[k]), heights[k]);
        }
    }

    private static void dueTrace(RoundAndUp x, int... bodies) {
        due("many(6)", x.many(6), bodies.length);
        for (int k = 0; k < bodies.length; k++) {
            due("trace(" + k + ")", x.trace(k), bodies[k]);
        }
    }

    // ---- all that can be seen of an object

    /** A ring that is full of all, in turn 9990, with a kept one behind it. */
    private static RoundAndUp full() {
        RoundAndUp x = ring(HORSE, 8, 0, 5, SWAN, 6, 3, 10, LAME, 5, 11, 7, WHITE, 12, 2, 20, OSTRICH, 7, 1, 4);
        text(x, "horse slow; swan dear 3;");
        x.level(4);
        x.child(3, 50);
        x.child(16, 70);
        x.photo(0, 4, 1);
        x.keep();
        for (int k = 0; k < 4; k++) {
            x.animal(HORSE, 4, k, 9);
        }
        x.level(0);
        turns(x, 9990);
        x.ride();
        for (int k = 2; k < 8; k++) {
            x.child(511, k);
        }
        for (int k = 1; k < 6; k++) {
            x.photo(k, 9, 9);
        }
        for (int k = 0; k < 24; k++) {
            x.feed(0x2020202020202020L, 8);
        }
        x.feed(0x3b70L, 2);
        x.prove(0, 3, 4);
        x.sheet(0, 0, 3);
        x.write(0, 1, -12);
        x.sheet(1, 2, 2);
        x.write(1, 1, 7);
        x.shelf(0, 0, 3);
        x.shelf(1, 1, 0);
        x.act(0, 3, 5);
        return x;
    }

    /** Few calls, so that an object stays below its 512. */
    private static void look(RoundAndUp x, List<Integer> all) {
        for (int k = 0; k < 9; k++) {
            for (int what = 0; what < 7; what++) {
                all.add(x.animalOf(k, what));
            }
            for (int what = 0; what < 3 && k < 8; what++) {
                all.add(x.childOf(k, what));
            }
            for (int what = 0; what < 3 && k < 5; what++) {
                all.add(x.row(k, what));
            }
            all.add(x.many(k));
            all.add(x.trace(k));
            all.add(x.fits(k));
            all.add(x.liar(k));
            all.add(x.item(k / 4, k / 4 * 2, k % 4));
            all.add(x.taken(k % 4, k / 4 * 10));
        }
    }

    /** LEVEL, TURN, THE TAPE and what is kept are seen by calls that change the object, so these come last. */
    private static List<Integer> lookThrough(RoundAndUp x) {
        List<Integer> all = new ArrayList<>();
        look(x, all);
        all.add(x.level(5));
        all.add(x.turn(1));
        all.add(x.rules());
        all.add(x.many(1));
        all.add(x.again());
        look(x, all);
        all.add(x.level(5));
        all.add(x.turn(1));
        return all;
    }

    private static void changesNothing(String call, int want, ToIntFunction<RoundAndUp> refused) {
        RoundAndUp x = full();
        due(call, refused.applyAsInt(x), want);
        due("as it was behind " + call, lookThrough(x).equals(lookThrough(full())) ? 1 : 0, 1);
    }

    // ---- the head of the document

    private static void theFace() {
        says("What it is", "An object is used for at most 512 calls after it has been made", () -> {
            RoundAndUp x = horses(12, 0);
            for (int call = 2; call <= 512; call++) {
                due("turn(1), call " + call, x.turn(1), call - 1);
            }
            x = nine();
            x.level(6);
            for (int call = 11; call <= 512; call += 2) {
                due("child(511, 999), call " + call, x.child(511, 999), call < 27 ? (call - 11) / 2 : FULL);
                due("tune(8), call " + (call + 1), x.tune(8), 2);
            }
        });
        says("The public face", "BAD = -1, FULL = -2, NONE = -3, STATE = -4", () -> {
            due("BAD", RoundAndUp.BAD, -1);
            due("FULL", RoundAndUp.FULL, -2);
            due("NONE", RoundAndUp.NONE, -3);
            due("STATE", RoundAndUp.STATE, -4);
        });
    }

    private static void refusals() {
        terms("Answers below 0, where not told otherwise, are refusals; such a call changes nothing", () -> {
            changesNothing("animal(0, 8, 0, 0)", BAD, x -> x.animal(0, 8, 0, 0));
            changesNothing("animal(1, 8, 0, 0)", FULL, x -> x.animal(1, 8, 0, 0));
            changesNothing("change(0, 1, 13)", BAD, x -> x.change(0, 1, 13));
            changesNothing("change(9, 2, 1)", BAD, x -> x.change(9, 2, 1));
            changesNothing("paint(0, 6)", BAD, x -> x.paint(0, 6));
            changesNothing("level(8)", BAD, x -> x.level(8));
            changesNothing("turn(501)", BAD, x -> x.turn(501));
            changesNothing("turn(10)", STATE, x -> x.turn(10));
            changesNothing("slip(0, 12)", BAD, x -> x.slip(0, 12));
            changesNothing("feed(0, 9)", BAD, x -> x.feed(0, 9));
            changesNothing("feed(0, 7)", FULL, x -> x.feed(0, 7));
            changesNothing("levelFor(0, 201)", BAD, x -> x.levelFor(0, 201));
            changesNothing("tune(0)", NONE, x -> x.tune(0));
            changesNothing("tuneAll()", NONE, RoundAndUp::tuneAll);
            changesNothing("slipped(0, 0)", NONE, x -> x.slipped(0, 0));
            changesNothing("child(512, 0)", BAD, x -> x.child(512, 0));
            changesNothing("child(1, 0)", FULL, x -> x.child(1, 0));
            changesNothing("coins(0, 1000)", BAD, x -> x.coins(0, 1000));
            changesNothing("seat(8)", BAD, x -> x.seat(8));
            changesNothing("photo(9, 0, 0)", BAD, x -> x.photo(9, 0, 0));
            changesNothing("photo(0, 0, 0)", FULL, x -> x.photo(0, 0, 0));
            changesNothing("prove(0, 0, 21)", BAD, x -> x.prove(0, 0, 21));
            changesNothing("alterRow(4, 0, 7)", -9, x -> x.alterRow(4, 0, 7));
            changesNothing("alterRow(0, 3, 7)", -9, x -> x.alterRow(0, 3, 7));
            changesNothing("sheet(0, 0, 41)", BAD, x -> x.sheet(0, 0, 41));
            changesNothing("sheet(0, 0, -1)", SIZE, x -> x.sheet(0, 0, -1));
            changesNothing("write(2, 0, 7)", NOTHING, x -> x.write(2, 0, 7));
            changesNothing("write(0, 3, 7)", OUTSIDE, x -> x.write(0, 3, 7));
            changesNothing("sets(0, 0, 10)", BAD, x -> x.sets(0, 0, 10));
            changesNothing("sets(1, 0, 2)", SORT, x -> x.sets(1, 0, 2));
            changesNothing("sets(2, 0, 2)", NOTHING, x -> x.sets(2, 0, 2));
            changesNothing("shelf(0, 0, 9)", BAD, x -> x.shelf(0, 0, 9));
            changesNothing("shelf(0, 3, 0)", BAD, x -> x.shelf(0, 3, 0));
            RoundAndUp x = horses(12, 5);
            due("again(), as nothing is kept", x.again(), NONE);
            due("many(0) behind it", x.many(0), 1);
        });
        terms("(but that THE TAPE is used up by rules())", () -> {
            RoundAndUp x = ring(HORSE, 8, 0, 5);
            text(x, "horse slow;");
            due("rules() of a fault", text(x, "horse stop"), -110);
            due("many(5)", x.many(5), 0);
            due("THE RULES stay", x.many(1), 1);
            due("THE RULES stay", x.animalOf(0, 5), 1);
        });
        terms("BAD (-1) there is no such thing, or a number is not as told", () -> {
            RoundAndUp x = new RoundAndUp();
            int[] none = {x.animalOf(0, 0), x.change(0, 1, 2), x.paint(0, 1), x.slip(0, 1), x.height(0, 0), x.rings(0, 0, 1), x.firstRing(0, 0),
                x.phases(0), x.tune(0), x.organ(0, 2, 0), x.together(1, 0), x.slipped(0, 1), x.child(1, 0), x.childOf(0, 0), x.coins(0, 0),
                x.seat(0), x.photo(0, 0, 0), x.fits(0), x.liar(0), x.prove(0, 0, 1), x.judge(0), x.shelf(0, 0, 0)};
            for (int k = 0; k < none.length; k++) {
                due("a call of what there isn't, " + k, none[k], BAD);
            }
        });
    }

    private static void severalRefusals() {
        terms("of several the first named: BAD (-1)", () -> {
            RoundAndUp x = full();
            due("animal(0, ..), a tenth", x.animal(0, 8, 0, 0), BAD);
            due("turn(501), above 9999", x.turn(501), BAD);
            due("feed(0, 9), above 200", x.feed(0, 9), BAD);
            due("child(512, 0), a ninth", x.child(512, 0), BAD);
            due("photo(0, 0, 10), a seventh", x.photo(0, 0, 10), BAD);
            due("mostRings(0, 0) without ANIMALS", new RoundAndUp().mostRings(0, 0), BAD);
            due("sheet(4, 0, -1)", x.sheet(4, 0, -1), BAD);
            due("sheet(0, 5, -1)", x.sheet(0, 5, -1), BAD);
            due("item(2, 5, 0) of a missing one", x.item(2, 5, 0), BAD);
            due("item(0, 5, 9), outside", x.item(0, 5, 9), BAD);
            due("sets(2, 0, 10) of a missing one", x.sets(2, 0, 10), BAD);
            due("sets(1, 0, 10) of ints", x.sets(1, 0, 10), BAD);
            due("taken(2, 6) of nothing", x.taken(2, 6), BAD);
        });
        terms("FULL (-2); NONE (-3); STATE (-4)", () -> {
            RoundAndUp x = full();
            due("a tenth ANIMAL", x.animal(1, 8, 0, 0), -2);
            due("a ninth CHILD", x.child(0, 0), -2);
            due("a seventh PHOTO", x.photo(0, 0, 0), -2);
            due("bytes above 200", x.feed(0, 8), -2);
            due("tune(0) by LEVEL 0", x.tune(0), -3);
            due("trace(29)", x.trace(29), -3);
            due("TURNS above 9999", x.turn(500), -4);
        });
        terms("-11 nothing where something is asked", () -> {
            RoundAndUp x = new RoundAndUp();
            due("write(0, 0, 1)", x.write(0, 0, 1), NOTHING);
            due("item(0, 0, 0)", x.item(0, 0, 0), NOTHING);
            due("item(0, 0, -1): -11 is named ahead of -12", x.item(0, 0, -1), NOTHING);
            due("sets(0, 0, 1)", x.sets(0, 0, 1), NOTHING);
            due("taken(0, 0)", x.taken(0, 0), NOTHING);
        });
        terms("-12 a place outside", () -> {
            RoundAndUp x = new RoundAndUp();
            x.sheet(0, 0, 1);
            due("write(0, 1, 1)", x.write(0, 1, 1), OUTSIDE);
            due("item(0, 0, 1)", x.item(0, 0, 1), OUTSIDE);
            due("sets(0, 1, 1)", x.sets(0, 1, 1), OUTSIDE);
        });
        terms("-13 a thing of another sort or kind", () -> {
            RoundAndUp x = horses(12, 0);
            x.sheet(0, 1, 1);
            x.shelf(0, 1, 0);
            x.shelf(1, 0, 0);
            due("item(0, 0, 0) of shorts", x.item(0, 0, 0), SORT);
            due("sets(0, 0, 1) of shorts", x.sets(0, 0, 1), SORT);
            due("taken(0, 10) of shorts", x.taken(0, 10), SORT);
            due("taken(0, 0) of shorts", x.taken(0, 0), SORT);
            due("taken(1, 2) of a horse", x.taken(1, 2), SORT);
        });
        terms("-14 a size below 0", () -> {
            due("sheet(0, 0, -1)", new RoundAndUp().sheet(0, 0, -1), SIZE);
            due("sheet(0, 0, MIN)", new RoundAndUp().sheet(0, 0, MIN), SIZE);
        });
        terms("-15 parted by 0", () -> {
            RoundAndUp x = horses(2, 0, 0, 0);
            x.shelf(0, 0, 2);
            due("act(0, 2, 7) of number 2 on CRANK 2", x.act(0, 2, 7), PARTED);
        });
        terms("Sets are told by bits.", () -> {
            RoundAndUp x = nine();
            x.level(6);
            for (int i = 0; i < 9; i++) {
                x.change(i, 2, 6);
                due("ANIMAL " + i + " alone", x.high(0), 1 << i);
                due("down with those of its bit", x.together(1 << i, 0), 6);
                x.change(i, 2, 0);
            }
            due("PHASES of the first: all but that of the others", x.phases(0), 4094);
        });
        terms("Quotients are cut towards 0.", () -> {
            RoundAndUp x = horses(8, 0, 0, 0, 0, 0, 0, 0, 0, 0);
            x.shelf(0, 0, 0);
            due("-17 by 8", x.act(0, 2, -17), -2);
            due("-7 by 8", x.act(0, 2, -7), 0);
            x.change(8, 1, 5);
            x.shelf(0, 0, 8);
            due("8 by -3", x.act(0, 2, 8), -2);
            due("-8 by -3", x.act(0, 2, -8), 2);
        });
    }

    // ---- section 1

    private static void numbersOfAnimals() {
        terms("ANIMALS, 9 at most", () -> {
            RoundAndUp x = new RoundAndUp();
            for (int k = 0; k < 9; k++) {
                due("animal(1, 8, 0, 0)", x.animal(1, 8, 0, 0), k);
            }
            due("a tenth", x.animal(1, 8, 0, 0), FULL);
            due("many(0)", x.many(0), 9);
        });
        terms("CRANK (2 to 12 teeth)", () -> {
            RoundAndUp x = new RoundAndUp();
            due("CRANK 1", x.animal(1, 1, 0, 0), BAD);
            due("CRANK 2", x.animal(1, 2, 0, 0), 0);
            due("CRANK 12", x.animal(1, 12, 0, 0), 1);
            due("CRANK 13", x.animal(1, 13, 0, 0), BAD);
            due("CRANK 0", x.animal(1, 0, 0, 0), BAD);
            due("CRANK -2", x.animal(1, -2, 0, 0), BAD);
        });
        terms("PHASE (0 to 11)", () -> {
            RoundAndUp x = new RoundAndUp();
            due("PHASE -1", x.animal(1, 12, -1, 0), BAD);
            due("PHASE 0", x.animal(1, 12, 0, 0), 0);
            due("PHASE 11", x.animal(1, 12, 11, 0), 1);
            due("PHASE 12", x.animal(1, 12, 12, 0), BAD);
            due("PHASE 11 on CRANK 2", x.animal(1, 2, 11, 0), 2);
            due("it stays 11", x.animalOf(2, 2), 11);
        });
        terms("PRICE (0 to 99)", () -> {
            RoundAndUp x = new RoundAndUp();
            due("PRICE -1", x.animal(1, 12, 0, -1), BAD);
            due("PRICE 0", x.animal(1, 12, 0, 0), 0);
            due("PRICE 99", x.animal(1, 12, 0, 99), 1);
            due("PRICE 100", x.animal(1, 12, 0, 100), BAD);
        });
        terms("LEVEL is 0 to 7 (3 at first)", () -> {
            RoundAndUp x = new RoundAndUp();
            due("level(8)", x.level(8), BAD);
            due("level(-1)", x.level(-1), BAD);
            due("level(7), 3 at first", x.level(7), 3);
            due("level(0)", x.level(0), 7);
            due("level(3)", x.level(3), 0);
        });
        terms("TURN 0 to 9999 (0 at first)", () -> {
            RoundAndUp x = horses(12, 5);
            due("animalOf(0, 6) in TURN 0", x.animalOf(0, 6), 5);
            turns(x, 9500);
            due("turn(499)", x.turn(499), 9999);
            due("animalOf(0, 6) in 9999: PLACE 8", x.animalOf(0, 6), 4);
            due("turn(1)", x.turn(1), STATE);
        });
        terms("KINDS: 0 animal; 1 horse, 2 swan, 4 lame (under animal); 3 white (under horse); 5 ostrich (under swan).", () -> {
            // Rows by KIND as from 0 to 5: a horse, a swan, a white one, a lame one, an ostrich.
            int[][] under = {{1, 1, 0, 0, 0, 0}, {1, 0, 1, 0, 0, 0}, {1, 1, 0, 1, 0, 0}, {1, 0, 0, 0, 1, 0}, {1, 0, 1, 0, 0, 1}};
            RoundAndUp x = horses(12, 0);
            x.shelf(0, 0, 0);
            for (int kind = 1; kind <= 5; kind++) {
                x.paint(0, kind);
                for (int as = 0; as <= 5; as++) {
                    due("KIND " + kind + " taken for " + as, x.taken(0, as), under[kind - 1][as] == 1 ? 0 : SORT);
                }
            }
        });
    }

    private static void theRing() {
        terms("BESIDE: each animal and the next one; the last one and the first, too, if there are three or more.", () -> {
            // On CRANK 4 by LEVEL 2 a horse is HIGH in turn 0 by PHASE 2 alone.
            int[][] phases = {{2}, {2, 2}, {2, 0}, {0, 2}, {2, 0, 2}, {0, 2, 2}, {2, 0, 2, 0}, {2, 0, 0, 2}, {0, 2, 0, 2}, {2, 0, 0, 0, 0, 0, 0, 0, 2}, {2, 0, 2, 0, 2, 0, 2, 0, 0}};
            int[] clash = {NONE, 0, NONE, NONE, 2, 1, NONE, 3, NONE, 8, NONE};
            for (int k = 0; k < phases.length; k++) {
                RoundAndUp x = horses(4, phases[k]);
                x.level(2);
                due("clash(0) of ring " + k, x.clash(0), clash[k]);
            }
        });
        terms("CLASH in a TURN: two BESIDE one another are HIGH.", () -> {
            // On CRANK 4 by LEVEL 2 a horse is HIGH in turn 0 by PHASE 2 alone.
            RoundAndUp x = horses(4, 2, 0, 0, 0, 0);
            x.level(2);
            due("one alone", x.clash(0), NONE);
            x.change(2, 2, 2);
            due("two that aren't BESIDE one another", x.clash(0), NONE);
            due("in turn 2 the others are HIGH: the last two of these are", x.nextClash(0) * 10 + x.clash(2), 23);
            x.change(3, 2, 2);
            due("two that are", x.clash(0), 2);
            due("none in turn 1", x.clash(1), NONE);
        });
        terms("horse, white: t. swan: half of t. ostrich: as swan, and 1 more if t is odd. lame: t and a seventh of t.", () -> {
            RoundAndUp x = ring(HORSE, 12, 0, 0, WHITE, 12, 0, 0, SWAN, 12, 0, 0, OSTRICH, 12, 0, 0, LAME, 12, 0, 0);
            dueHeights(x, 0, new int[] {0, 1, 2, 11, 12, 13}, new int[] {0, 1, 2, 1, 0, 1});
            dueHeights(x, 1, new int[] {0, 1, 2, 11, 12, 13}, new int[] {1, 2, 3, 2, 1, 2});
            dueHeights(x, 2, new int[] {0, 1, 2, 3, 23, 24}, new int[] {0, 0, 1, 1, 1, 0});
            dueHeights(x, 3, new int[] {0, 1, 2, 3, 23, 24}, new int[] {0, 1, 1, 2, 0, 0});
            // 6 teeth by 6, 8 by 7, 14 by 13, 16 by 14.
            dueHeights(x, 4, new int[] {0, 6, 7, 13, 14}, new int[] {0, 6, 4, 2, 4});
        });
        terms("A RULE changes an ANIMAL", () -> {
            askedFirst();
        });
        terms("the first of THE RULES whose KIND is its or above it, and whose condition holds", () -> {
            RoundAndUp x = ring(HORSE, 8, 0, 5, WHITE, 8, 0, 5, SWAN, 8, 0, 5, LAME, 8, 0, 5, OSTRICH, 8, 0, 5);
            text(x, "white dear 1; horse dear 2; horse dear 3; swan if number = 2 dear 4; swan dear 5;");
            int[] want = {7, 6, 18, 5, 20};
            for (int i = 0; i < 5; i++) {
                due("animalOf(" + i + ", 4)", x.animalOf(i, 4), want[i]);
            }
            text(x, "animal if 1 = 2 stop; animal slow;");
            due("the first doesn't hold", x.animalOf(0, 5), 1);
            text(x, "ostrich stop;");
            due("none is for a swan", x.animalOf(2, 5), 0);
            due("one is for an ostrich", x.animalOf(4, 5), 2);
        });
        terms("By slow TEETH are half of these; by stop 0.", () -> {
            RoundAndUp x = ring(HORSE, 12, 0, 0, LAME, 12, 0, 0, SWAN, 12, 0, 0, OSTRICH, 12, 0, 0, HORSE, 12, 5, 0);
            text(x, "animal if phase = 5 stop; animal slow;");
            dueHeights(x, 0, new int[] {0, 1, 2, 3}, new int[] {0, 0, 1, 1});
            dueHeights(x, 1, new int[] {6, 7, 13}, new int[] {3, 4, 5});
            dueHeights(x, 2, new int[] {3, 4, 7, 8}, new int[] {0, 1, 1, 2});
            dueHeights(x, 3, new int[] {1, 2, 3, 7}, new int[] {0, 0, 1, 2});
            dueHeights(x, 4, new int[] {0, 1, 9999}, new int[] {5, 5, 5});
        });
        terms("PRICE NOW: PRICE; 0 by free; N more by dear N; then twice that for swan, ostrich.", () -> {
            RoundAndUp x = ring(HORSE, 8, 0, 99, SWAN, 8, 0, 99, OSTRICH, 8, 0, 99, LAME, 8, 0, 0);
            String[] rules = {"", "animal free;", "animal dear 0;", "animal dear 99;", "animal slow;", "animal stop;"};
            int[][] want = {{99, 198, 198, 0}, {0, 0, 0, 0}, {99, 198, 198, 0}, {198, 396, 396, 99}, {99, 198, 198, 0}, {99, 198, 198, 0}};
            for (int r = 0; r < rules.length; r++) {
                text(x, rules[r]);
                for (int i = 0; i < 4; i++) {
                    due("animalOf(" + i + ", 4) by '" + rules[r] + "'", x.animalOf(i, 4), want[r][i]);
                }
            }
        });
    }

    private static void places() {
        terms("PHASE and TEETH by t, modulo CRANK", () -> {
            RoundAndUp x = ring(HORSE, 2, 11, 0, HORSE, 12, 11, 0);
            x.prove(0, 0, 2);
            due("11 modulo 2", x.row(0, 1), 1);
            due("12 modulo 2", x.row(1, 1), 0);
            x.prove(1, 0, 2);
            due("11 modulo 12", x.row(0, 1), 11);
            due("12 modulo 12", x.row(1, 1), 0);
        });
        terms("HEIGHT: the lesser of PLACE and (CRANK less PLACE); white: 1 more.", () -> {
            dueHeights(horses(2, 0), 0, new int[] {0, 1}, new int[] {0, 1});
            dueHeights(horses(5, 0), 0, new int[] {0, 2, 3, 4}, new int[] {0, 2, 2, 1});
            dueHeights(horses(12, 0), 0, new int[] {5, 6, 7, 11}, new int[] {5, 6, 5, 1});
            dueHeights(ring(WHITE, 12, 0, 0), 0, new int[] {0, 6, 11}, new int[] {1, 7, 2});
        });
        terms("DOWN: PLACE is 0.", () -> {
            RoundAndUp x = ring(WHITE, 12, 0, 0, HORSE, 2, 1, 0);
            due("a white one of HEIGHT 1", x.organ(0, 2, 0), 0);
            due("PLACE 1 on CRANK 2 is not", x.organ(1, 2, 0), NONE);
        });
        terms("HIGH: HEIGHT is LEVEL or more.", () -> {
            RoundAndUp x = horses(12, 2, 3, 4);
            due("LEVEL 3", x.high(0), 6);
            x.level(4);
            due("LEVEL 4", x.high(0), 4);
            x.level(0);
            due("LEVEL 0, PLACE 0 of the third", x.high(8), 7);
            x.level(7);
            due("LEVEL 7, PLACE 6 of the third", x.high(2), 0);
            x.paint(2, WHITE);
            due("LEVEL 7, PLACE 6 of a white one", x.high(2), 4);
        });
        terms("RING of an ANIMAL in TURN t: its number and t, modulo how many there are, is 0, and it is HIGH.", () -> {
            RoundAndUp one = horses(12, 0);
            one.level(0);
            due("one alone has one each turn", one.rings(0, 0, 200), 200);
            RoundAndUp x = nine();
            x.level(0);
            int[] first = {0, 8, 7, 6, 5, 4, 3, 2, 1};
            for (int i = 0; i < 9; i++) {
                due("firstRing(" + i + ", 0)", x.firstRing(i, 0), first[i]);
            }
            due("firstRing(0, 1)", x.firstRing(0, 1), 9);
            x.level(6);
            due("it must be HIGH: PLACE 6 and 18, 54 by nine", x.firstRing(0, 0), 18);
            due("rings(0, 0, 18)", x.rings(0, 0, 18), 0);
        });
    }

    private static void numbersOfChildren() {
        terms("CHILDREN, 8 at most", () -> {
            RoundAndUp x = new RoundAndUp();
            for (int c = 0; c < 8; c++) {
                due("child(0, 0)", x.child(0, 0), c);
            }
            due("a ninth", x.child(0, 0), FULL);
            due("many(2)", x.many(2), 8);
        });
        terms("a WISH (a set of ANIMALS there are)", () -> {
            RoundAndUp none = new RoundAndUp();
            due("no ANIMAL of none", none.child(0, 0), 0);
            due("one of none", none.child(1, 0), BAD);
            RoundAndUp x = nine();
            due("all nine", x.child(511, 0), 0);
            due("the ninth", x.child(256, 0), 1);
            due("a tenth", x.child(512, 0), BAD);
            due("a tenth and all nine", x.child(1023, 0), BAD);
            due("-1", x.child(-1, 0), BAD);
            due("MIN", x.child(MIN, 0), BAD);
        });
        terms("COINS (0 to 999)", () -> {
            RoundAndUp x = new RoundAndUp();
            due("child(0, -1)", x.child(0, -1), BAD);
            due("child(0, 0)", x.child(0, 0), 0);
            due("child(0, 999)", x.child(0, 999), 1);
            due("child(0, 1000)", x.child(0, 1000), BAD);
        });
        terms("RIDES (the ANIMAL ridden latest; none)", () -> {
            RoundAndUp x = ring(HORSE, 8, 0, 5, HORSE, 8, 0, 9);
            x.child(3, 9);
            due("none at first", x.childOf(0, 2), -9);
            x.ride();
            due("the dearer", x.childOf(0, 2), 1);
            x.coins(0, 5);
            x.ride();
            due("the latest", x.childOf(0, 2), 0);
            x.ride();
            due("on none it stays", x.childOf(0, 2), 0);
        });
    }

    // ---- section 2

    private static void theTape() {
        terms("THE TAPE takes bytes, 200 at most; rules() uses it up.", () -> {
            RoundAndUp x = new RoundAndUp();
            for (int k = 1; k <= 24; k++) {
                due("feed(0, 8)", x.feed(0, 8), 8 * k);
            }
            due("feed(0, 7)", x.feed(0, 7), 199);
            due("feed(0, 2) at 199", x.feed(0, 2), FULL);
            due("feed(0, 1) at 199", x.feed(0, 1), 200);
            due("feed(0, 1) at 200", x.feed(0, 1), FULL);
            x.rules();
            due("many(5) behind rules()", x.many(5), 0);
            due("feed(0, 8) behind rules()", x.feed(0, 8), 8);
            // As many comparisons as 200 bytes can hold: the last alone decides.
            String[] lasts = {"1=1", "1=2"};
            for (int k = 0; k < 2; k++) {
                RoundAndUp y = ring(LAME, 8, 0, 0);
                feedText(y, "lame if" + "1=2or".repeat(37) + lasts[k] + "stop;");
                due("200 bytes of one RULE", y.many(5), 200);
                due("rules() of these", y.rules(), 1);
                due("it holds by its last, " + lasts[k], y.animalOf(0, 5), k == 0 ? 2 : 0);
            }
            due("200 bytes are read", text(new RoundAndUp(), "lame stop;" + " ".repeat(180) + "lame free;"), 2);
        });
        terms("TEXT: { KIND DO ; | KIND if COND DO ; }", () -> {
            dueText("", 0);
            dueText("   ", 0);
            dueText("swan stop;", 1);
            dueText("swan if 1 = 1 stop;", 1);
            dueFault(";", 0);
            dueFault("swan;", 4);
            dueFault("swan if stop;", 8);
            dueFault("swan stop", 9);
            dueFault("swan stop;;", 10);
        });
        terms("8 RULES at most", () -> {
            dueText("lame stop;".repeat(8), 8);
            dueText("lame stop;".repeat(8) + "  ", 8);
            dueFault("lame stop;".repeat(9), 80);
            RoundAndUp x = horses(8, 0);
            due("the eighth with a condition", text(x, "lame stop;".repeat(7) + "horse if 1 = 2 stop;"), 8);
            due("it doesn't hold", x.animalOf(0, 5), 0);
            due("the eighth with another", text(x, "lame stop;".repeat(7) + "horse if 2 = 2 stop;"), 8);
            due("it holds", x.animalOf(0, 5), 2);
            eightDearRules();
        });
        terms("KIND: animal | horse | swan | white | lame | ostrich.", () -> {
            dueText("animal free; horse free; swan free; white free; lame free; ostrich free;", 6);
            dueFault("level free;", 0);
            dueFault("ostriches free;", 0);
            dueFault("anima free;", 0);
        });
        terms("DO: free | dear N (0 to 99) | slow | stop.", () -> {
            dueText("swan free; swan dear 0; swan dear 99; swan slow; swan stop;", 5);
            dueFault("swan dear 100;", 10);
            dueFault("swan dear ;", 10);
            dueFault("swan free 0;", 10);
            dueFault("swan if;", 7);
        });
        terms("COND: ALL { or ALL } ALL: ONE { and ONE } ONE: { not } ( VALUE SIGN VALUE | \"(\" COND \")\" )", () -> {
            due("none of each", holds("1 = 1"), 1);
            due("or", holds("1 = 2 or 2 = 3 or 3 = 3"), 1);
            due("or of none", holds("1 = 2 or 2 = 3"), 0);
            due("and", holds("1 = 1 and 2 = 2 and 3 = 4"), 0);
            due("and of all", holds("1 = 1 and 2 = 2"), 1);
            due("and binds more, ahead", holds("1 = 2 and 1 = 2 or 1 = 1"), 1);
            due("and binds more, behind", holds("1 = 1 or 1 = 2 and 1 = 2"), 1);
            due("brackets bind most", holds("(1 = 1 or 1 = 2) and 1 = 2"), 0);
            due("not", holds("not 1 = 1"), 0);
            due("not not", holds("not not 1 = 1"), 1);
            due("44 nots", holds("not ".repeat(44) + "1=1"), 1);
            due("43 nots", holds("not ".repeat(43) + "1=1"), 0);
            due("not binds one", holds("not 1 = 1 or 1 = 1"), 1);
            due("not ()", holds("not (1 = 1 or 1 = 1)"), 0);
            dueFault("swan if () stop;", 9);
            dueFault("swan if (1 = 1 stop;", 15);
            dueFault("swan if 1 = 1) stop;", 13);
            dueFault("swan if 1 = 1 or stop;", 17);
            dueFault("swan if 1 = 1 and stop;", 18);
            dueFault("swan if (1 = 1 or) stop;", 17);
            dueFault("swan if 1 stop;", 10);
            dueFault("swan if 1 < stop;", 12);
            dueFault("swan if 1 < 2 < 3 stop;", 14);
            dueFault("swan if (1) < 2 stop;", 10);
            dueFault("swan if not stop;", 12);
        });
        terms("N | level | crank | phase | price | number SIGN: < | = | >", () -> {
            due("7 < 8", holds("7 < 8"), 1);
            due("8 < 8", holds("8 < 8"), 0);
            due("8 = 8", holds("8 = 8"), 1);
            due("8 = 9", holds("8 = 9"), 0);
            due("8 > 8", holds("8 > 8"), 0);
            due("9 > 8", holds("9 > 8"), 1);
            dueFault("swan if 1 == 1 stop;", 11);
            dueFault("swan if free = 1 stop;", 8);
        });
        terms("N are NUMBERS 0 to 9999.", () -> {
            due("0 < 1", holds("0 < 1"), 1);
            due("0 = number", holds("0 = number"), 1);
            due("9999 > 9998", holds("9999 > 9998"), 1);
            due("9999 = 9999", holds("9999 = 9999"), 1);
            due("9999 < level", holds("9999 < level"), 0);
            dueFault("swan if 10000 = 1 stop;", 8);
            dueFault("swan if 1 = 10000 stop;", 12);
        });
        terms("FACTS: LEVEL; CRANK, PHASE, PRICE of the ANIMAL as told, and its number.", () -> {
            due("level = 3", holds("level = 3"), 1);
            due("crank = 8", holds("crank = 8"), 1);
            due("phase = 11, above its CRANK", holds("phase = 11"), 1);
            due("price = 7", holds("price = 7"), 1);
            due("number = 0", holds("number = 0"), 1);
            RoundAndUp x = ring(SWAN, 8, 0, 7);
            text(x, "swan if price = 7 dear 1;");
            due("not by PRICE NOW", x.animalOf(0, 4), 16);
        });
    }

    /** Two horses of CRANK 8 and PRICE 5, of which THE RULES have been told, but nothing has been asked yet. */
    private static RoundAndUp told(int first, int second, String rules) {
        RoundAndUp x = ring(HORSE, 8, first, 5, HORSE, 8, second, 5);
        text(x, rules);
        return x;
    }

    /** Whatever is asked first, THE RULES are asked ahead of it. */
    private static void askedFirst() {
        String stop = "horse stop;";
        due("height(0, 4)", told(3, 3, stop).height(0, 4), 3);
        due("high(4)", told(3, 3, stop).high(4), 3);
        due("clash(4)", told(3, 3, stop).clash(4), 0);
        due("nextClash(3)", told(3, 3, stop).nextClash(3), 3);
        due("quiet(3, 5)", told(3, 3, stop).quiet(3, 5), 0);
        due("rings(0, 0, 200)", told(3, 3, stop).rings(0, 0, 200), 100);
        due("firstRing(0, 3)", told(3, 3, stop).firstRing(0, 3), 4);
        due("mostRings(3, 1)", told(3, 3, stop).mostRings(3, 1), 1);
        due("levelFor(3, 5)", told(3, 3, stop).levelFor(3, 5), 4);
        due("organ(0, 2, 1)", told(3, 3, stop).organ(0, 2, 1), NONE);
        due("together(1, 0)", told(3, 3, stop).together(1, 0), NONE);
        due("slipped(4, 3)", told(3, 3, stop).slipped(4, 3), 0);
        String second = "horse if number = 1 stop;";
        due("phases(0): the other one stops, down", told(3, 0, second).phases(0), 255);
        due("tune(1)", told(3, 0, second).tune(1), 0);
        due("tuneAll()", told(3, 0, second).tuneAll(), 1);
        String dear = "horse dear 2;";
        due("PRICE NOW", told(3, 3, dear).animalOf(0, 4), 7);
        due("how it goes", told(3, 3, stop).animalOf(0, 5), 2);
        RoundAndUp x = told(3, 3, stop);
        x.turn(4);
        due("HEIGHT in TURN", x.animalOf(0, 6), 3);
        RoundAndUp y = told(3, 3, stop);
        y.prove(0, 4, 1);
        due("PLACE in a ROW", y.row(0, 1), 3);
        y.alterRow(0, 0, 2);
        text(y, "horse free;");
        due("it goes: PLACE 5 in turn 2", y.judge(0), 1);
        RoundAndUp z = told(3, 3, dear);
        z.child(3, 9);
        due("seats()", z.seats(), 7);
        text(z, "horse dear 5;");
        due("seat(0)", z.seat(0), NONE);
        text(z, "horse dear 3;");
        due("ride()", z.ride(), 1);
        due("8 are paid", z.childOf(0, 1), 1);
    }

    /** Eight RULES, 200 bytes, each of its own CRANK and N: all are asked, also when they come back. */
    private static void eightDearRules() {
        RoundAndUp x = new RoundAndUp();
        StringBuilder all = new StringBuilder();
        for (int crank = 2; crank <= 9; crank++) {
            x.animal(HORSE, crank, 0, 0);
            all.append("horse if crank=").append(crank).append(" dear ").append(crank).append("1;");
        }
        due("bytes", all.length(), 200);
        due("rules()", text(x, all.toString()), 8);
        for (int i = 0; i < 8; i++) {
            due("dear " + (i + 2) + "1", x.animalOf(i, 4), 10 * i + 21);
        }
        x.keep();
        text(x, "horse free;");
        due("free", x.animalOf(7, 4), 0);
        x.again();
        for (int i = 0; i < 8; i++) {
            due("dear " + (i + 2) + "1, come back", x.animalOf(i, 4), 10 * i + 21);
        }
    }

    private static void namesAndNumbers() {
        terms("NAMES are rows of letters a to z", () -> {
            dueFault("swan freea;", 5);
            dueFault("swan freez;", 5);
            dueFault("swan free`;", 9);
            dueFault("swan free{;", 9);
            dueFault("swan freeA;", 9);
            dueFault("swan fre;", 5);
            dueFault("swanfree;", 0);
            dueFault("Swan free;", 0);
        });
        terms("NUMBERS rows of digits (1 to 4), both as long as they go", () -> {
            dueText("swan dear 9;", 1);
            dueText("swan dear 90;", 1);
            dueText("swan dear 0099;", 1);
            dueFault("swan dear 00099;", 10);
            dueFault("swan dear 9/;", 11);
            dueFault("swan dear 9:;", 11);
            dueFault("swan dear 9 9;", 12);
        });
        terms("blanks (32) part them, and stand elsewhere as one likes", () -> {
            dueText("  swan   if  (  1  <  2  )  dear   9  ;  ", 1);
            dueText("swan if(1<2)and(3>2)dear9;lame stop;", 2);
            dueText("swan if 1<2and 3>2or 1=1stop;", 1);
            dueFault("swan if 1<2andnot 1=1 stop;", 11);
            char[] others = {0, 9, 10, 13, 31, 33, 95, 127, 128, 160, 255};
            for (char other : others) {
                dueFault("swan" + other + "stop;", 4);
            }
        });
        terms("At most 3 \"(\" are open within one another.", () -> {
            due("three", holds("(((1=1)))"), 1);
            due("three, twice", holds("(((1=1)))and(((1=1)))"), 1);
            due("three by nots", holds("not(not(not(1=1)))"), 0);
            dueFault("swan if ((((1=1)))) stop;", 11);
            dueFault("swan if (((1=1)and((1=1)))) stop;", 19);
        });
    }

    private static final String[] NAMES = {"animal", "horse", "swan", "white", "lame", "ostrich", "if", "free", "dear", "slow", "stop", "or", "and",
        "not", "level", "crank", "phase", "price", "number"};

    private static boolean isOneOf(String name, String... names) {
        return List.of(names).contains(name);
    }

    private static void namesInPlaces() {
        terms("the first byte of the first NAME, NUMBER or other byte that can't stand there", () -> {
            for (int k = 0; k < NAMES.length; k++) {
                String name = NAMES[k];
                int end = name.length();
                dueFault(name, k < 6 ? end : 0);
                dueFault("swan " + name, isOneOf(name, "if", "free", "dear", "slow", "stop") ? 5 + end : 5);
                dueFault("swan if " + name, k >= 13 ? 8 + end : 8);
                dueFault("swan if 1 " + name, 10);
                dueFault("swan if 1 < " + name, k >= 14 ? 12 + end : 12);
                dueFault("swan if 1 < 2 " + name, isOneOf(name, "or", "and", "free", "dear", "slow", "stop") ? 14 + end : 14);
                dueFault("swan if (1 < 2 " + name, isOneOf(name, "or", "and") ? 15 + end : 15);
                dueFault("swan dear " + name, 10);
                dueFault("swan stop " + name, 10);
                dueFault("swan stop; " + name, k < 6 ? 11 + end : 11);
            }
        });
        terms("other byte that can't stand there", () -> {
            for (int b = 0; b < 256; b++) {
                char c = (char) b;
                boolean isLetter = c >= 'a' && c <= 'z';
                boolean isDigit = c >= '0' && c <= '9';
                dueFault("  " + c, c == ' ' ? 0 : 2, c == ' ');
                dueFault("swan " + c, c == ' ' ? 6 : 5);
                dueFault("swan if 1" + c, c == '<' || c == '=' || c == '>' || c == ' ' || isDigit ? 10 : 9);
                dueFault("swan if 1<" + c, c == ' ' || isDigit ? 11 : 10);
                dueFault("swan if " + c, c == ' ' || c == '(' || isDigit ? 9 : 8);
                dueFault("swan if (1<2" + c, c == ' ' || c == ')' || isDigit ? 13 : 12);
                dueFault("swan stop" + c, c == ' ' || c == ';' ? 10 : isLetter ? 5 : 9, c == ';');
            }
        });
    }

    private static void faults() {
        terms("the place (from 0) of the first byte of the first NAME, NUMBER or other byte that can't stand there", () -> {
            dueFault("free swan;", 0);
            dueFault("  free swan;", 2);
            dueFault("swan swan;", 5);
            dueFault("swan stops;", 5);
            dueFault("swan 12;", 5);
            dueFault("swan #;", 5);
            dueFault("swan stop; 7 8", 11);
            dueFault("swan if level phase;", 14);
        });
        terms("(a NUMBER of more digits", () -> {
            dueFault("swan if 00001 = 1 stop;", 8);
            dueFault("swan dear 00001;", 10);
            dueFault("swan if 1 = 12345 stop;", 12);
        });
        terms("dear above 99", () -> {
            dueFault("swan dear 100;", 10);
            dueFault("swan dear 9999;", 10);
        });
        terms("the fourth \"(\"", () -> {
            dueFault("swan if ( ( ( ( 1 = 1", 14);
            dueFault("swan if not(not(not(not(1=1", 23);
        });
        terms("the first NAME of the ninth RULE, too)", () -> {
            dueFault("lame stop;".repeat(8) + "  lame", 82);
            dueFault("lame stop;".repeat(8) + "lame stop;", 80);
        });
        terms("or the end (how many bytes there are), if more must come", () -> {
            String whole = "swan if not(level=3)and 1<2or(2>1)dear 5;";
            int[] ends = {4, 5, 7, 8, 11, 12, 17, 18, 19, 20, 23, 24, 25, 26, 27, 29, 30, 34, 38, 39, 40};
            for (int end : ends) {
                dueFault(whole.substring(0, end), end);
            }
            dueText(whole, 1);
            dueFault("swan stop   ", 12);
            dueFault("swan stop" + " ".repeat(191), 200);
            RoundAndUp x = new RoundAndUp();
            for (int end : ends) {
                due("a longer one ahead of it", text(x, "swan stop;".repeat(8)), 8);
                due("rules() of the first " + end, text(x, whole.substring(0, end)), -100 - end);
            }
        });
    }

    // ---- section 3

    private static void turnsAsked() {
        terms("TURNS asked are 0 to 9999", () -> {
            int[] turns = {-1, 10000, MIN, MAX, 0, 9999};
            for (int t : turns) {
                RoundAndUp x = horses(2, 0, 1);
                x.level(1);
                int[] got = {x.height(0, t), x.high(t), x.clash(t), x.nextClash(t), x.quiet(t, 1), x.rings(0, t, 1), x.firstRing(1, t),
                    x.mostRings(t, 1), x.levelFor(t, 1), x.together(1, t), x.slipped(t, 0), x.photo(0, t, 0), x.prove(0, t, 1)};
                // Of two horses the first is HIGH in odd turns alone and the second in even ones.
                int[] even = {0, 2, NONE, NONE, 1, 0, NONE, 0, 1, 0, 1, 0, 1}, odd = {1, 1, NONE, NONE, 1, 0, NONE, 0, 1, 10000, 0, 0, 1};
                for (int k = 0; k < got.length; k++) {
                    due("call " + k + " with TURN " + t, got[k], t == 0 ? even[k] : t == 9999 ? odd[k] : BAD);
                }
            }
        });
        terms("of n TURNS from t on t is the first (they may lie beyond 9999)", () -> {
            // Both are HIGH in turns 4, 12, .., 9996, 10004; 9999 finds them at PLACE 7.
            RoundAndUp x = horses(8, 0, 0);
            x.level(4);
            due("nextClash(9996)", x.nextClash(9996), 9996);
            due("nextClash(9997)", x.nextClash(9997), 10004);
            due("quiet(9996, 1)", x.quiet(9996, 1), 0);
            due("quiet(9999, 6)", x.quiet(9999, 6), 5);
            due("rings(0, 9996, 8)", x.rings(0, 9996, 8), 1);
            due("rings(0, 9999, 5)", x.rings(0, 9999, 5), 0);
            due("rings(0, 9999, 6)", x.rings(0, 9999, 6), 1);
            due("firstRing(0, 9999)", x.firstRing(0, 9999), 10004);
            due("levelFor(9999, 1)", x.levelFor(9999, 1), 2);
            due("levelFor(9999, 6)", x.levelFor(9999, 6), 5);
            due("together(3, 9999)", x.together(3, 9999), 10000);
            due("prove(0, 9999, 20)", x.prove(0, 9999, 20), 20);
            due("row(0, 0)", x.row(0, 0), 9999);
            due("row(19, 0)", x.row(19, 0), 10018);
            x.change(1, 2, 1);
            due("mostRings(9999, 4)", x.mostRings(9999, 4), 0);
            due("mostRings(9999, 5): the second in 10003", x.mostRings(9999, 5), 1);
        });
    }

    private static void phasesAndTuned() {
        terms("PHASES of an ANIMAL: those below its CRANK", () -> {
            due("CRANK 2", horses(2, 11).phases(0), 3);
            due("CRANK 12", horses(12, 0).phases(0), 4095);
        });
        terms("(all others as they are; THE RULES ask by it, too)", () -> {
            RoundAndUp x = horses(6, 4, 0);
            due("PHASE 0 alone meets", x.phases(0), 62);
            text(x, "animal if number = 0 and phase = 0 stop;");
            due("by PHASE 0 it stops, down", x.phases(0), 63);
            text(x, "animal if number = 0 and phase = 3 stop;");
            due("by PHASE 3 it stops, HIGH", x.phases(0), 54);
            due("its PHASE stays", x.animalOf(0, 2), 4);
        });
        terms("in TURNS 0 to 99 it is never HIGH together with one BESIDE it", () -> {
            // By LEVEL 6 the horse is HIGH when t + PHASE is 6 modulo 12, the white one when t + PHASE is 5 or 6 modulo 11.
            RoundAndUp x = ring(HORSE, 12, 6, 0, WHITE, 11, 6, 0);
            x.level(6);
            due("PHASES 6 and 6 meet in 0", x.clash(0), 0);
            due("PHASES 6 and 6 don't meet in 1 to 99", x.quiet(1, 99), 99);
            due("they are not PHASES", x.phases(0) >> 6 & 1, 0);
            x.change(0, 2, 3);
            x.change(1, 2, 5);
            due("PHASES 3 and 5 meet in 99 first", x.nextClash(0), 99);
            due("they are not PHASES", x.phases(0) >> 3 & 1, 0);
            x.change(0, 2, 2);
            x.change(1, 2, 4);
            due("PHASES 2 and 4 meet in 100 first", x.nextClash(0), 100);
            due("they are PHASES", x.phases(0) >> 2 & 1, 1);
            // By PHASES 7 and 7 both would be HIGH in the turn ahead of 0, then in 119.
            x.change(0, 2, 7);
            x.change(1, 2, 7);
            due("PHASES 7 and 7 meet in 119 first", x.nextClash(0), 119);
            due("they are PHASES", x.phases(0) >> 7 & 1, 1);
            due("they are PHASES", x.phases(1) >> 7 & 1, 1);
            due("of one alone all are", horses(12, 6).phases(0), 4095);
        });
        terms("with one BESIDE it", () -> {
            // On CRANK 12 by LEVEL 6 two horses meet by the same PHASE alone.
            for (int n = 2; n <= 9; n++) {
                RoundAndUp x = new RoundAndUp();
                for (int i = 0; i < n; i++) {
                    x.animal(HORSE, 12, i, 0);
                }
                x.level(6);
                for (int i = 0; i < n; i++) {
                    due("phases(" + i + ") of " + n, x.phases(i), 4095 & ~(1 << (i + 1) % n) & ~(1 << (i + n - 1) % n));
                }
            }
        });
        terms("a row of PHASES, one below its CRANK for each ANIMAL", () -> {
            RoundAndUp x = horses(2, 11);
            due("one alone", x.tune(0), 0);
            due("without ANIMALS the row is empty", new RoundAndUp().tuneAll(), 0);
            // On CRANK 3 by LEVEL 1 a horse is down by one PHASE alone in each turn: two are never without a CLASH.
            RoundAndUp two = horses(3, 0, 0);
            two.level(1);
            due("none below CRANK 3", two.tune(0), NONE);
            // On CRANK 2 two may go by turns, three may not.
            RoundAndUp three = horses(2, 0, 0);
            three.level(1);
            due("two by turns", three.tune(1), 1);
            three.animal(HORSE, 2, 0, 0);
            due("three can't", three.tune(1), NONE);
            // What a longer crank had been tuned by doesn't count for a shorter one.
            RoundAndUp shorter = horses(12, 0, 0);
            shorter.level(6);
            due("two of CRANK 12", shorter.tune(1), 1);
            shorter.change(0, 1, 2);
            shorter.change(1, 1, 3);
            shorter.level(1);
            due("two of CRANKS 2 and 3", shorter.tune(0), NONE);
            due("two of CRANKS 2 and 3", shorter.tuneAll(), NONE);
        });
        terms("by which there is no CLASH in TURNS 0 to 99", () -> {
            // On CRANKS 10 and 11 by LEVEL 5 all rows have a CLASH: PHASES 5 and 5 in 0 alone, 6 and 6 in 99 alone.
            RoundAndUp x = horses(10, 5, 5);
            x.change(1, 1, 11);
            x.level(5);
            due("PHASES 5 and 5 in 0", x.clash(0), 0);
            due("PHASES 5 and 5 in 1 to 99", x.quiet(1, 99), 99);
            x.change(0, 2, 6);
            x.change(1, 2, 6);
            due("PHASES 6 and 6 in 99 first", x.nextClash(0), 99);
            due("there is no row", x.tune(0), NONE);
            RoundAndUp y = ring(LAME, 11, 0, 0, HORSE, 10, 6, 0);
            y.level(4);
            due("PHASES 0 and 6 in 100 first", y.nextClash(0), 100);
            due("they are the first row", y.tune(0) * 100 + y.tune(1), 6);
        });
        terms("THE RULES ask by PHASES as they are now", () -> {
            RoundAndUp x = horses(6, 0, 4);
            text(x, "animal if number = 1 and phase = 0 stop;");
            due("the second goes now, by PHASE 0, too", x.tune(1), 1);
            x.change(1, 2, 0);
            due("the second stops now", x.tune(1), 0);
        });
        terms("the first such row by numbers", () -> {
            int[] row = {0, 1, 0, 1, 0, 1, 0, 1, 2};
            RoundAndUp x = horses(6, 5, 5, 5, 5, 5, 5, 5, 5, 5);
            for (int i = 0; i < 9; i++) {
                due("tune(" + i + ")", x.tune(i), row[i]);
            }
            // By LEVEL 6 on CRANK 12 two BESIDE one another go by other PHASES: the last by another than the first, too, from three on.
            int[][] rows = {{0}, {0, 1}, {0, 1, 2}, {0, 1, 0, 1}, {0, 1, 0, 1, 2}, {0, 1, 0, 1, 0, 1}, {0, 1, 0, 1, 0, 1, 2}, {0, 1, 0, 1, 0, 1, 0, 1}};
            for (int[] want : rows) {
                RoundAndUp y = horses(12, want);
                y.level(6);
                due("as it is", y.tuneAll(), 0);
                for (int i = 0; i < want.length; i++) {
                    due("tune(" + i + ") of " + want.length, y.tune(i), want[i]);
                }
            }
            // On CRANK 8 a lame one is at PHASE and (t modulo 7): by LEVEL 4 it is never HIGH by PHASE 5 alone.
            RoundAndUp lame = ring(LAME, 8, 0, 0, HORSE, 8, 3, 0);
            lame.level(4);
            due("the first by 5", lame.tune(0), 5);
            due("the second by 0", lame.tune(1), 0);
            lame.animal(HORSE, 8, 1, 0);
            int[] three = {5, 0, 1};
            for (int i = 0; i < 3; i++) {
                due("tune(" + i + ")", lame.tune(i), three[i]);
            }
            due("two are others than before", lame.tuneAll(), 2);
            RoundAndUp one = ring(LAME, 8, 0, 0);
            one.level(4);
            one.keep();
            one.animal(HORSE, 8, 3, 0);
            due("the first of two by 5", one.tune(0), 5);
            one.again();
            due("the first alone by 0", one.tune(0), 0);
            due("it is no other than before", one.tuneAll(), 0);
            dueRow("a white one is never HIGH at PLACE 0 alone, in turns 3 modulo 7; the lame one then, by 3, alone",
                2, new int[] {WHITE, 7, 0, 0, LAME, 4, 0, 0}, 4, 3);
            dueRow("the ostrich is HIGH in turns 3 and 4 modulo 8, the horse DOWN in the second of these",
                2, new int[] {OSTRICH, 4, 0, 0, HORSE, 8, 0, 0}, 0, 4);
            dueRow("two by half of 12 less 1 from one another, and one that is never HIGH",
                4, new int[] {HORSE, 12, 0, 0, HORSE, 12, 0, 0, LAME, 3, 0, 0}, 0, 5, 0);
            dueRow("the second by more than the CRANK of the third", 3, new int[] {HORSE, 8, 0, 0, HORSE, 8, 0, 0, WHITE, 4, 0, 0}, 0, 4, 0);
            dueRow("the third by more than the CRANK of the first", 3, new int[] {WHITE, 4, 0, 0, HORSE, 8, 0, 0, HORSE, 8, 0, 0}, 0, 0, 4);
            // TEETH are 0 to 50: the first is HIGH by 5, 15, .. 45, which are 5, 3, 1, 11, 9 modulo 12.
            dueRow("the greatest PHASE that there is", 5, new int[] {OSTRICH, 10, 0, 0, OSTRICH, 12, 0, 0}, 0, 11);
            dueRow("the swan comes to each PLACE in turns of the horse", 3, new int[] {LAME, 3, 0, 0, SWAN, 10, 0, 0, HORSE, 6, 0, 0}, NONE, NONE, NONE);
            RoundAndUp twice = ring(WHITE, 7, 0, 0, LAME, 4, 0, 0);
            twice.level(2);
            due("the first by 4", twice.tune(0), 4);
            for (int i = 0; i < 2; i++) {
                twice.paint(i, HORSE);
                twice.change(i, 1, 12);
            }
            twice.level(4);
            due("the second by 5, asked ahead of the first", twice.tune(1), 5);
            due("the first by 0", twice.tune(0), 0);
        });
    }

    /** The first TUNED row of ANIMALS, four numbers each, by a LEVEL. */
    private static void dueRow(String what, int level, int[] fours, int... want) {
        RoundAndUp x = ring(fours);
        x.level(level);
        for (int i = 0; i < want.length; i++) {
            due("tune(" + i + "): " + what, x.tune(i), want[i]);
        }
    }

    private static void seats() {
        terms("each on one of its WISH whose PRICE NOW is its COINS or less, or on none", () -> {
            RoundAndUp x = ring(HORSE, 8, 0, 5, SWAN, 8, 0, 10);
            x.child(1, 5);
            due("5 for 5", x.seat(0), 0);
            x.coins(0, 4);
            due("5 for 4", x.seat(0), NONE);
            x.away();
            x.child(2, 20);
            due("20 for 20", x.seat(0), 1);
            x.coins(0, 19);
            due("20 for 19", x.seat(0), NONE);
            x.away();
            x.child(0, 999);
            due("no WISH", x.seat(0), NONE);
        });
        terms("no two on one", () -> {
            RoundAndUp x = ring(HORSE, 8, 0, 5);
            for (int c = 0; c < 8; c++) {
                x.child(1, 9);
            }
            due("seats()", x.seats(), 5);
            due("seat(0)", x.seat(0), 0);
            for (int c = 1; c < 8; c++) {
                due("seat(" + c + ")", x.seat(c), NONE);
            }
        });
        terms("such that PRICES NOW together are greatest", () -> {
            RoundAndUp x = ring(HORSE, 8, 0, 9, HORSE, 8, 0, 8, HORSE, 8, 0, 1);
            x.child(3, 9);
            x.child(1, 9);
            due("the first makes room: 8 and 9", x.seats(), 17);
            due("seat(0)", x.seat(0), 1);
            RoundAndUp y = ring(HORSE, 8, 0, 9, HORSE, 8, 0, 1);
            y.child(3, 9);
            y.child(1, 8);
            due("the second can't pay 9", y.seats(), 9);
            due("seat(1)", y.seat(1), NONE);
            RoundAndUp z = ring(HORSE, 8, 0, 1, HORSE, 8, 0, 2);
            z.child(2, 2);
            z.child(3, 3);
            due("2 and 1", z.seats(), 3);
            due("seat(0)", z.seat(0), 1);
            due("seat(1)", z.seat(1), 0);
            RoundAndUp w = ring(HORSE, 8, 0, 4);
            w.child(0, 3);
            w.child(0, 9);
            w.child(1, 4);
            due("the third alone", w.seats(), 4);
            due("seat(0)", w.seat(0), NONE);
            due("seat(1)", w.seat(1), NONE);
            due("seat(2)", w.seat(2), 0);
            RoundAndUp v = ring(HORSE, 8, 0, 7);
            v.child(1, 1);
            v.child(1, 8);
            due("the second alone", v.seats(), 7);
            due("seat(0)", v.seat(0), NONE);
            due("seat(1)", v.seat(1), 0);
        });
        terms("Of several the first: by CHILDREN in turn the least ANIMAL, on none behind all ANIMALS.", () -> {
            RoundAndUp x = ring(HORSE, 8, 0, 5, HORSE, 8, 0, 5, HORSE, 8, 0, 5, HORSE, 8, 0, 0);
            x.child(6, 5);
            due("the least of two", x.seat(0), 1);
            x.child(7, 5);
            due("the first, 1", x.seat(0), 1);
            due("the second, 0", x.seat(1), 0);
            x.child(2, 5);
            due("the first makes room for the third", x.seat(0), 2);
            RoundAndUp y = ring(HORSE, 8, 0, 0);
            y.child(1, 0);
            y.child(1, 0);
            due("for nothing rather than on none", y.seat(0), 0);
            due("the second is on none", y.seat(1), NONE);
            RoundAndUp z = ring(HORSE, 8, 0, 5, HORSE, 8, 0, 5);
            z.child(3, 5);
            z.child(3, 5);
            z.child(3, 5);
            due("the third is on none", z.seat(2), NONE);
            due("seat(0)", z.seat(0), 0);
            due("seat(1)", z.seat(1), 1);
        });
    }

    private static void photosAndSlips() {
        terms("A PHOTO (6 at most)", () -> {
            RoundAndUp x = horses(8, 0);
            for (int k = 0; k < 6; k++) {
                due("photo(0, 0, 0)", x.photo(0, 0, 0), k);
            }
            due("a seventh", x.photo(0, 0, 0), FULL);
            due("many(3)", x.many(3), 6);
        });
        terms("a HEIGHT (0 to 9)", () -> {
            RoundAndUp x = horses(8, 0);
            due("HEIGHT -1", x.photo(0, 0, -1), BAD);
            due("HEIGHT 0", x.photo(0, 0, 0), 0);
            due("HEIGHT 9", x.photo(0, 0, 9), 1);
            due("HEIGHT 10", x.photo(0, 0, 10), BAD);
        });
        terms("FITS of an ANIMAL: PHASES below its CRANK", () -> {
            due("CRANK 2 without PHOTOS", horses(2, 11).fits(0), 3);
            due("CRANK 12 without PHOTOS", horses(12, 0).fits(0), 4095);
            RoundAndUp x = horses(4, 0);
            x.photo(0, 0, 1);
            due("HEIGHT 1 on CRANK 4", x.fits(0), 10);
        });
        terms("each PHOTO of it tells its HEIGHT", () -> {
            RoundAndUp x = horses(8, 0, 0);
            x.photo(1, 0, 9);
            due("PHOTOS of others don't count", x.fits(0), 255);
            x.photo(0, 9999, 3);
            due("9999 is 7 modulo 8", x.fits(0), 80);
            x.photo(0, 0, 2);
            due("both", x.fits(0), 64);
            x.photo(0, 0, 9);
            due("none", x.fits(0), 0);
            RoundAndUp y = horses(8, 0);
            text(y, "horse if phase = 4 stop;");
            y.photo(0, 1, 4);
            due("THE RULES ask by it", y.fits(0), 24);
        });
        terms("LIAR: if none FITS, the least PHOTO of it but for which some would.", () -> {
            RoundAndUp x = horses(8, 0, 0);
            due("no PHOTO, all FIT", x.liar(0), NONE);
            x.photo(1, 0, 9);
            due("one alone", x.liar(1), 0);
            x.photo(0, 0, 4);
            x.photo(0, 1, 3);
            due("PHASE 4 FITS", x.liar(0), NONE);
            x.photo(0, 2, 9);
            due("none but for the fourth", x.liar(0), 3);
            x.photo(0, 3, 9);
            due("none but for two", x.liar(0), NONE);
            x.burn();
            x.photo(0, 0, 4);
            x.photo(0, 0, 0);
            due("but for either: the least", x.liar(0), 0);
            // Both 1 and 2 tell HEIGHT 3 in turn 2; in turn 0 PHASE 1 is 1 high and PHASE 2 is 2 high; all others are wrong twice.
            RoundAndUp seven = horses(7, 0);
            seven.photo(0, 2, 3);
            seven.photo(0, 0, 1);
            seven.photo(0, 0, 2);
            due("PHASE 1 but for the third, 2 but for the second", seven.liar(0), 1);
            RoundAndUp other = horses(7, 0);
            other.photo(0, 2, 3);
            other.photo(0, 0, 2);
            other.photo(0, 0, 1);
            due("PHASE 1 but for the second, 2 but for the third", other.liar(0), 1);
            RoundAndUp stopped = horses(8, 0);
            text(stopped, "horse stop;");
            stopped.photo(0, 0, 2);
            stopped.photo(0, 5, 2);
            stopped.photo(0, 9, 4);
            due("it stops at PLACE 2", stopped.liar(0), 2);
            text(stopped, "horse slow;");
            due("it goes slowly: by PHASE 0 it is 0, 2, 4 high", stopped.liar(0), 0);
            // As it goes by PHASE 7 it would be 0 and 1 high; but by 7 it stops, and PHASE -1 is none.
            RoundAndUp last = horses(8, 0);
            text(last, "horse if phase = 7 stop;");
            last.photo(0, 1, 0);
            last.photo(0, 2, 1);
            due("PHASES from 0 on alone", last.fits(0), 0);
            due("PHASES from 0 on alone", last.liar(0), 0);
            // By PHASE 8, that is not below its CRANK, it would stop, down, and both would tell its HEIGHT.
            RoundAndUp y = horses(8, 0);
            text(y, "horse if phase = 8 stop;");
            y.photo(0, 0, 0);
            y.photo(0, 1, 0);
            due("PHASES below its CRANK alone", y.fits(0), 0);
            due("PHASES below its CRANK alone", y.liar(0), 0);
        });
        terms("SLIP: PHASE becomes that and n more, modulo CRANK (0 or more).", () -> {
            int[][] slips = {{8, 7, 1, 0}, {8, 0, -1, 7}, {8, 11, 0, 3}, {2, 11, 0, 1}, {2, 0, -11, 1}, {2, 11, 11, 0}, {3, 0, -11, 1}, {12, 11, 11, 10}, {12, 0, -11, 1}, {12, 0, 0, 0}, {2, 0, -10, 0}};
            for (int[] s : slips) {
                RoundAndUp x = horses(s[0], s[1]);
                due("slip(0, " + s[2] + ") of PHASE " + s[1], x.slip(0, s[2]), s[1]);
                due("PHASE behind it on CRANK " + s[0], x.animalOf(0, 2), s[3]);
            }
        });
    }

    private static void rowsAndReader() {
        terms("ROWS of an ANIMAL from TURN t on, n (1 to 20)", () -> {
            RoundAndUp x = horses(8, 0);
            due("prove(0, 3, 0)", x.prove(0, 3, 0), BAD);
            due("prove(0, 3, 1)", x.prove(0, 3, 1), 1);
            due("row(0, 0)", x.row(0, 0), 3);
            due("prove(0, 3, 20)", x.prove(0, 3, 20), 20);
            due("row(19, 0)", x.row(19, 0), 22);
            due("prove(0, 3, 21)", x.prove(0, 3, 21), BAD);
        });
        terms("right is one that tells a TURN 0 to 99999", () -> {
            RoundAndUp x = horses(8, 0);
            x.prove(0, 0, 1);
            due("TURN 0", x.judge(0), 0);
            x.prove(0, 7, 2);
            x.alterRow(0, 0, 99999);
            x.alterRow(1, 0, 100000);
            due("TURN 100000 behind 99999", x.judge(0), 2);
            x.prove(0, 7, 1);
            x.alterRow(0, 0, 99999);
            due("TURN 99999", x.judge(0), 0);
            x.alterRow(0, 0, 99999 + 8);
            due("TURN 100007", x.judge(0), 1);
            x.alterRow(0, 0, -1);
            due("TURN -1", x.judge(0), 1);
            x.prove(0, 0, 1);
            x.alterRow(0, 0, -8);
            due("TURN -8", x.judge(0), 1);
            // By PHASE 1 it would be down in the turn ahead of 0: PLACE and HEIGHT are right, the TURN alone isn't.
            RoundAndUp y = horses(8, 1);
            y.prove(0, 7, 1);
            due("TURN 7: PLACE 0, HEIGHT 0", y.row(0, 1) + y.row(0, 2), 0);
            y.alterRow(0, 0, -1);
            due("TURN -1 with PLACE and HEIGHT as they would be", y.judge(0), 1);
            // 100000 is 0 modulo 8.
            y.prove(0, 0, 1);
            y.alterRow(0, 0, 100000);
            due("TURN 100000 with PLACE and HEIGHT as they would be", y.judge(0), 1);
        });
        terms("that is 1 more than that of the ROW ahead (of the first: any such)", () -> {
            RoundAndUp x = horses(8, 0);
            x.prove(0, 3, 2);
            x.alterRow(0, 0, 11);
            due("11, 4", x.judge(0), 2);
            x.alterRow(1, 0, 12);
            due("11, 12", x.judge(0), 0);
            x.alterRow(1, 0, 20);
            due("11, 20", x.judge(0), 2);
            x.prove(0, 3, 2);
            x.alterRow(1, 0, 3);
            x.alterRow(1, 1, 3);
            x.alterRow(1, 2, 3);
            due("3 again", x.judge(0), 2);
            x.alterRow(0, 0, MAX);
            x.alterRow(1, 0, MIN);
            due("MAX, MIN", x.judge(0), 1);
        });
        terms("and PLACE and HEIGHT then", () -> {
            RoundAndUp x = horses(8, 0);
            x.prove(0, 5, 1);
            x.alterRow(0, 1, 3);
            due("PLACE 3 has the HEIGHT of 5, and is another", x.judge(0), 1);
            x.prove(0, 5, 1);
            x.alterRow(0, 2, 5);
            due("HEIGHT 5", x.judge(0), 1);
            x.prove(0, 5, 1);
            x.alterRow(0, 2, 2);
            due("HEIGHT 2", x.judge(0), 1);
            x.prove(0, 5, 1);
            x.alterRow(0, 2, MIN);
            due("HEIGHT MIN", x.judge(0), 1);
            x.prove(0, 5, 1);
            x.alterRow(0, 1, 4);
            due("PLACE 4", x.judge(0), 1);
            x.alterRow(0, 1, 5);
            due("as it was", x.judge(0), 0);
            x.prove(0, 5, 1);
            x.alterRow(0, 1, 13);
            due("PLACE 13", x.judge(0), 1);
        });
    }

    private static void actsAndHost() {
        terms("with a number x (ints that wrap)", () -> {
            RoundAndUp x = ring(HORSE, 8, 0, 0, HORSE, 8, 0, 0, LAME, 4, 0, 0, HORSE, 2, 0, 0, OSTRICH, 2, 0, 0);
            for (int shelf = 0; shelf < 4; shelf++) {
                x.shelf(shelf, 0, shelf);
            }
            due("(MAX + 0) * 3", x.act(0, 0, MAX), MAX - 2);
            due("(MAX + 0) * 3 * 2", x.act(0, 1, MAX), -6);
            due("(MAX + 1) * 3", x.act(1, 0, MAX), MIN);
            due("(MAX + 1) by 2", x.act(2, 2, MAX), MIN / 2);
            due("MIN by -1", x.act(3, 2, MIN), MIN);
            x.shelf(0, 0, 4);
            // (x + 4) * 2 - 2 is MIN, and so is 0 less that.
            due("0 - MIN", x.act(0, 1, (1 << 30) - 3), MIN);
        });
        terms("An ANIMAL is held as a thing of its KIND; n: its number, a: its CRANK.", () -> {
            RoundAndUp x = horses(8, 0, 0);
            x.shelf(0, 0, 1);
            due("a horse lifts", x.act(0, 0, 5), 18);
            x.paint(1, SWAN);
            due("a swan lifts", x.act(0, 0, 5), 6);
            due("a swan turns by CRANK 8", x.act(0, 1, 5), 4);
            x.change(1, 1, 12);
            due("a swan turns by CRANK 12", x.act(0, 1, 5), 0);
            RoundAndUp y = ring(WHITE, 2, 0, 0, HORSE, 8, 0, 0, HORSE, 8, 0, 0, HORSE, 8, 0, 0, WHITE, 3, 0, 0);
            y.shelf(0, 0, 0);
            y.shelf(1, 0, 4);
            due("a white one, number 0, tells: 15 * 2 ^ 2, and 0 by 2", y.act(0, 3, 5), 28);
            due("a white one, number 4, tells: (15 ^ 4) * 2 ^ 3, and 4 by -1", y.act(1, 3, 1), 17);
            y.paint(0, OSTRICH);
            due("an ostrich shares: 5 by 2, and lifts(2)", y.act(0, 2, 5), 4);
            y.paint(0, LAME);
            due("a lame one shares: 6 by 2", y.act(0, 2, 5), 3);
            y.paint(0, SWAN);
            due("a swan shares: 5 by 2", y.act(0, 2, 5), 2);
        });
        terms("12 shares: x by (a - n), the rest away (-15 if these are the same; that is all that act() answers then)", () -> {
            RoundAndUp x = horses(3, 0, 0, 0, 0, 0);
            x.shelf(0, 0, 2);
            x.shelf(1, 0, 3);
            x.shelf(2, 0, 4);
            due("8 by 1", x.act(0, 2, 8), 8);
            due("8 by 0", x.act(1, 2, 8), PARTED);
            due("0 by 0", x.act(1, 2, 0), PARTED);
            due("8 by -1", x.act(2, 2, 8), -8);
            x.change(3, 1, 5);
            due("9 by 2, the rest away", x.act(1, 2, 9), 4);
            x.change(3, 1, 3);
            x.paint(3, LAME);
            due("a lame one shares by 0", x.act(1, 2, 8), PARTED);
            dueTrace(x, 40, 12);
            x.paint(3, WHITE);
            due("a white one tells by 0", x.act(1, 3, 8), PARTED);
            dueTrace(x, 51, 13, 11, 50, 20, 10, 12);
            x.paint(3, OSTRICH);
            due("an ostrich shares by 0", x.act(1, 2, 8), PARTED);
            dueTrace(x, 61, 12);
            due("an ostrich lifts all the same", x.act(1, 0, 8), 11);
        });
        terms("as they began (left first); the first 30 are kept", () -> {
            // No body runs more than 7 others, so that all are kept.
            RoundAndUp x = ring(WHITE, 8, 0, 0);
            x.shelf(0, 0, 0);
            for (int k = 0; k < 5; k++) {
                due("act(0, 3, 5)", x.act(0, 3, 5), 30 ^ 8);
                dueTrace(x, 51, 13, 11, 50, 20, 10, 12);
                due("trace(7)", x.trace(7), NONE);
            }
        });
        terms("longs (3) or booleans (4), 40 at most, or missing (at first)", () -> {
            for (int sort = 0; sort < 5; sort++) {
                RoundAndUp x = new RoundAndUp();
                due("missing at first", x.item(0, sort, 0), NOTHING);
                due("sheet(0, " + sort + ", 41)", x.sheet(0, sort, 41), BAD);
                due("sheet(0, " + sort + ", 40)", x.sheet(0, sort, 40), 1);
                due("write(0, 39, 1)", x.write(0, 39, 1), 1);
                due("item(0, " + sort + ", 39)", x.item(0, sort, 39), 1);
                due("write(0, 40, 1)", x.write(0, 40, 1), OUTSIDE);
            }
        });
        terms("SHEETS 0 to 3 are rows of bytes (sort 0)", () -> {
            RoundAndUp x = new RoundAndUp();
            due("sheet(-1, 0, 1)", x.sheet(-1, 0, 1), BAD);
            due("sheet(0, 0, 1)", x.sheet(0, 0, 1), 1);
            due("sheet(3, 0, 1)", x.sheet(3, 0, 1), 1);
            due("sheet(4, 0, 1)", x.sheet(4, 0, 1), BAD);
        });
        terms("(by its number; nothing, if there is no such one at the time), a SHEET's row, or nothing (at first)", () -> {
            RoundAndUp x = new RoundAndUp();
            for (int shelf = 0; shelf < 4; shelf++) {
                due("nothing at first", x.taken(shelf, 0), NOTHING);
            }
            x.keep();
            x.animal(HORSE, 8, 0, 0);
            x.shelf(0, 0, 0);
            due("ANIMAL 0", x.taken(0, 1), 0);
            x.again();
            due("no such one now", x.taken(0, 1), NOTHING);
            due("act() of none", x.act(0, 0, 5), 0);
            x.animal(SWAN, 8, 0, 0);
            due("by its number: a swan now", x.taken(0, 2), 0);
            x.sheet(0, 0, 0);
            x.shelf(3, 1, 0);
            due("a row of none is a row", x.taken(3, 10), 0);
        });
        terms("SHELVES 0 to 3 hold an ANIMAL", () -> {
            RoundAndUp x = horses(8, 0);
            due("shelf(-1, 0, 0)", x.shelf(-1, 0, 0), BAD);
            due("shelf(0, 0, 0)", x.shelf(0, 0, 0), 1);
            due("shelf(3, 0, 0)", x.shelf(3, 0, 0), 1);
            due("shelf(4, 0, 0)", x.shelf(4, 0, 0), BAD);
        });
    }

    // ---- the promises

    private static void promises1To5() {
        promise(1, "No ANIMALS, RULES, CHILDREN, PHOTOS; nothing is kept.", () -> {
            RoundAndUp x = new RoundAndUp();
            for (int what = 0; what < 4; what++) {
                due("many(" + what + ")", x.many(what), 0);
            }
            due("again()", x.again(), NONE);
        });
        promise(2, "An ANIMAL of a KIND 1 to 5: its number.", () -> {
            RoundAndUp x = new RoundAndUp();
            due("KIND 0", x.animal(0, 8, 0, 0), BAD);
            for (int kind = 1; kind <= 5; kind++) {
                due("KIND " + kind, x.animal(kind, 8, 0, 0), kind - 1);
            }
            due("KIND 6", x.animal(6, 8, 0, 0), BAD);
            due("KIND -1", x.animal(-1, 8, 0, 0), BAD);
        });
        promise(2, "BAD; FULL.", () -> {
            RoundAndUp x = nine();
            due("a tenth", x.animal(1, 2, 0, 0), FULL);
            due("a tenth of CRANK 13", x.animal(1, 13, 0, 0), BAD);
            due("MIN, MAX", x.animal(MIN, MAX, MIN, MAX), BAD);
        });
        promise(3, "Of an ANIMAL: what = 0 KIND, 1 CRANK, 2 PHASE, 3 PRICE, 4 PRICE NOW", () -> {
            RoundAndUp x = ring(OSTRICH, 12, 11, 99);
            int[] want = {BAD, 5, 12, 11, 99, 198, 0, 1, BAD};
            for (int what = -1; what <= 7; what++) {
                due("animalOf(0, " + what + ")", x.animalOf(0, what), want[what + 1]);
            }
            RoundAndUp y = ring(SWAN, 3, 5, 7, LAME, 4, 6, 8, HORSE, 6, 1, 2, OSTRICH, 7, 2, 3, WHITE, 5, 0, 4);
            int[][] fives = {{2, 3, 5, 7, 14}, {4, 4, 6, 8, 8}, {1, 6, 1, 2, 2}, {5, 7, 2, 3, 6}, {3, 5, 0, 4, 4}};
            for (int i = 0; i < 5; i++) {
                for (int what = 0; what < 5; what++) {
                    due("animalOf(" + i + ", " + what + ")", y.animalOf(i, what), fives[i][what]);
                }
            }
        });
        promise(3, "5 how a RULE lets it go (0 as it goes, 1 slow, 2 stop), 6 HEIGHT in TURN. BAD.", () -> {
            String[] rules = {"", "horse free;", "horse dear 9;", "horse slow;", "horse stop;", "swan stop;"};
            int[] want = {0, 0, 0, 1, 2, 0};
            for (int r = 0; r < rules.length; r++) {
                RoundAndUp x = horses(8, 0);
                text(x, rules[r]);
                due("animalOf(0, 5) by '" + rules[r] + "'", x.animalOf(0, 5), want[r]);
            }
            RoundAndUp x = horses(8, 0);
            for (int what = 0; what <= 6; what++) {
                due("animalOf(1, " + what + ")", x.animalOf(1, what), BAD);
                due("animalOf(-1, " + what + ")", x.animalOf(-1, what), BAD);
            }
        });
        promise(4, "CRANK (what 1), PHASE (2), PRICE (3) of an ANIMAL becomes v: what it was. BAD.", () -> {
            RoundAndUp x = ring(HORSE, 8, 3, 50);
            int[][] calls = {{0, 1, 1, BAD}, {0, 1, 2, 8}, {0, 1, 12, 2}, {0, 1, 13, BAD}, {0, 2, -1, BAD}, {0, 2, 0, 3}, {0, 2, 11, 0}, {0, 2, 12, BAD},
                {0, 3, -1, BAD}, {0, 3, 0, 50}, {0, 3, 99, 0}, {0, 3, 100, BAD}, {0, 0, 2, BAD}, {0, 4, 2, BAD}, {1, 1, 2, BAD}, {-1, 1, 2, BAD}};
            for (int[] c : calls) {
                due("change(" + c[0] + ", " + c[1] + ", " + c[2] + ")", x.change(c[0], c[1], c[2]), c[3]);
            }
            int[] now = {1, 12, 11, 99};
            for (int what = 0; what < 4; what++) {
                due("animalOf(0, " + what + ")", x.animalOf(0, what), now[what]);
            }
        });
        promise(5, "An ANIMAL becomes one of another KIND (1 to 5): the KIND that it was. BAD.", () -> {
            RoundAndUp x = ring(WHITE, 8, 0, 0);
            int[][] calls = {{0, 0, BAD}, {0, 1, 3}, {0, 5, 1}, {0, 6, BAD}, {0, -1, BAD}, {1, 1, BAD}, {-1, 1, BAD}, {0, 2, 5}};
            for (int[] c : calls) {
                due("paint(" + c[0] + ", " + c[1] + ")", x.paint(c[0], c[1]), c[2]);
            }
            due("animalOf(0, 0)", x.animalOf(0, 0), 2);
        });
    }

    private static void promises6To10() {
        promise(6, "LEVEL becomes v: what it was. BAD.", () -> {
            RoundAndUp x = new RoundAndUp();
            int[][] calls = {{0, 3}, {-1, BAD}, {7, 0}, {8, BAD}, {MAX, BAD}, {MIN, BAD}, {7, 7}};
            for (int[] c : calls) {
                due("level(" + c[0] + ")", x.level(c[0]), c[1]);
            }
        });
        promise(7, "n TURNS go (1 to 500): TURN then.", () -> {
            RoundAndUp x = new RoundAndUp();
            int[][] calls = {{0, BAD}, {1, 1}, {500, 501}, {501, BAD}, {-1, BAD}, {MAX, BAD}, {MIN, BAD}, {1, 502}};
            for (int[] c : calls) {
                due("turn(" + c[0] + ")", x.turn(c[0]), c[1]);
            }
        });
        promise(7, "BAD; STATE: it would be above 9999.", () -> {
            RoundAndUp x = new RoundAndUp();
            turns(x, 9800);
            due("turn(200) at 9800", x.turn(200), STATE);
            due("turn(199) at 9800", x.turn(199), 9999);
            due("turn(1) at 9999", x.turn(1), STATE);
            due("turn(0) at 9999", x.turn(0), BAD);
        });
        promise(8, "SLIP by n (-11 to 11): PHASE that it was. BAD.", () -> {
            RoundAndUp x = horses(12, 5);
            int[][] calls = {{0, -12, BAD}, {0, -11, 5}, {0, 11, 6}, {0, 12, BAD}, {1, 1, BAD}, {-1, 1, BAD}, {0, MIN, BAD}, {0, MAX, BAD}, {0, 0, 5}};
            for (int[] c : calls) {
                due("slip(" + c[0] + ", " + c[1] + ")", x.slip(c[0], c[1]), c[2]);
            }
        });
        promise(9, "n bytes (1 to 8) come to THE TAPE, the lowest of eight first: how many it has.", () -> {
            RoundAndUp x = new RoundAndUp();
            due("feed(0, 0)", x.feed(0, 0), BAD);
            due("feed(0, 9)", x.feed(0, 9), BAD);
            due("feed(0, -1)", x.feed(0, -1), BAD);
            due("feed('s', 1), seven bytes above it let go", x.feed(0x7a7a7a7a7a7a7a73L, 1), 1);
            due("feed('wan stop', 8)", x.feed(0x706f7473206e6177L, 8), 9);
            due("feed(';', 1)", x.feed(';', 1), 10);
            due("rules()", x.rules(), 1);
            x.feed(0x656d616cL, 4);
            x.feed(0xff3b706f747320L, 7);
            due("behind 'lame stop;' 255 can't stand", x.rules(), -110);
        });
        promise(9, "BAD; FULL: more than 200.", () -> {
            for (int n = 1; n <= 8; n++) {
                RoundAndUp x = new RoundAndUp();
                for (int k = 0; k < 24; k++) {
                    x.feed(0, 8);
                }
                due("feed(0, 8) at 192", x.feed(0, 8), 200);
                due("feed(0, " + n + ") at 200", x.feed(0, n), FULL);
                due("feed(0, 9) at 200", x.feed(0, 9), BAD);
                due("feed(0, 0) at 200", x.feed(0, 0), BAD);
                due("many(5)", x.many(5), 200);
            }
        });
        promise(10, "THE TAPE tells THE RULES (in place of all): how many", () -> {
            RoundAndUp x = horses(8, 0);
            due("eight", text(x, "swan stop;".repeat(7) + "horse stop;"), 8);
            due("animalOf(0, 5)", x.animalOf(0, 5), 2);
            due("one in place of eight", text(x, "horse slow;"), 1);
            due("many(1)", x.many(1), 1);
            due("animalOf(0, 5)", x.animalOf(0, 5), 1);
            due("none in place of one", x.rules(), 0);
            due("many(1)", x.many(1), 0);
            due("animalOf(0, 5)", x.animalOf(0, 5), 0);
        });
        promise(10, "-100 less its FAULT.", () -> {
            dueText("#", -100);
            dueText("s", -100);
            dueText("swan", -104);
            dueText(" ".repeat(199) + "#", -299);
            dueText("swan" + " ".repeat(196), -300);
        });
    }

    private static void promises11To15() {
        promise(11, "HEIGHT of an ANIMAL in TURN t. BAD.", () -> {
            RoundAndUp x = horses(12, 0);
            int[][] calls = {{0, 0, 0}, {0, 9999, 3}, {0, 10000, BAD}, {0, -1, BAD}, {1, 0, BAD}, {-1, 0, BAD}, {MAX, MAX, BAD}, {MIN, MIN, BAD}};
            for (int[] c : calls) {
                due("height(" + c[0] + ", " + c[1] + ")", x.height(c[0], c[1]), c[2]);
            }
        });
        promise(12, "Those that are HIGH in TURN t, as a set. BAD.", () -> {
            due("without ANIMALS", new RoundAndUp().high(0), 0);
            RoundAndUp x = nine();
            due("none", x.high(0), 0);
            due("all nine", x.high(3), 511);
            x.change(8, 2, 6);
            due("the ninth alone", x.high(0), 256);
            due("high(-1)", x.high(-1), BAD);
            due("high(10000)", x.high(10000), BAD);
        });
        promise(13, "The least ANIMAL that is HIGH with the next one in a CLASH in TURN t (the last one's next is the first).", () -> {
            RoundAndUp x = nine();
            due("of nine the least", x.clash(3), 0);
            x.level(5);
            x.change(8, 2, 6);
            x.change(0, 2, 6);
            due("the last and the first", x.clash(0), 8);
            x.change(7, 2, 6);
            due("7 and 8 ahead of 8 and 0", x.clash(0), 7);
            x.change(1, 2, 6);
            due("0 and 1 ahead of these", x.clash(0), 0);
        });
        promise(13, "BAD; NONE.", () -> {
            due("without ANIMALS", new RoundAndUp().clash(0), NONE);
            due("none is HIGH", nine().clash(0), NONE);
            due("clash(-1)", nine().clash(-1), BAD);
            due("clash(10000)", new RoundAndUp().clash(10000), BAD);
        });
        promise(14, "The first of 200 TURNS from t on in which there is a CLASH.", () -> {
            RoundAndUp x = seldom();
            due("t itself", x.nextClash(21), 21);
            due("the 200th", x.nextClash(38), 237);
            due("it would be the 201st", x.nextClash(37), NONE);
            due("nextClash(22)", x.nextClash(22), NONE);
        });
        promise(14, "BAD; NONE.", () -> {
            due("without ANIMALS", new RoundAndUp().nextClash(0), NONE);
            due("one alone", horses(12, 0).nextClash(0), NONE);
            due("nextClash(-1)", new RoundAndUp().nextClash(-1), BAD);
            due("nextClash(10000)", new RoundAndUp().nextClash(10000), BAD);
        });
        promise(15, "How many TURNS, one behind the other, of n (1 to 200) from t on go at most without a CLASH. BAD.", () -> {
            RoundAndUp x = seldom();
            int[][] calls = {{21, 0, BAD}, {21, 1, 0}, {22, 1, 1}, {22, 200, 200}, {22, 201, BAD}, {21, 200, 199}, {38, 200, 199}, {37, 200, 200},
                {9, 7, 5}, {8, 9, 5}, {0, 3, 3}, {0, 4, 3}, {-1, 1, BAD}, {10000, 1, BAD}, {21, -1, BAD}, {21, MIN, BAD}, {21, MAX, BAD}};
            for (int[] c : calls) {
                due("quiet(" + c[0] + ", " + c[1] + ")", x.quiet(c[0], c[1]), c[2]);
            }
            x.level(0);
            due("all clash", x.quiet(0, 200), 0);
            due("without ANIMALS", new RoundAndUp().quiet(0, 200), 200);
        });
    }

    private static void promises16To19() {
        promise(16, "RINGS of an ANIMAL in n TURNS (1 to 200) from t on. BAD.", () -> {
            // A ring in turns 4, 12, 20, ..: even, and HIGH.
            RoundAndUp x = horses(8, 0, 0);
            x.level(4);
            int[][] calls = {{0, 4, 0, BAD}, {0, 4, 1, 1}, {0, 0, 4, 0}, {0, 0, 5, 1}, {0, 5, 7, 0}, {0, 5, 8, 1}, {0, 4, 9, 2}, {0, 0, 200, 25}, {0, 0, 201, BAD},
                {0, -1, 1, BAD}, {0, 10000, 1, BAD}, {2, 4, 1, BAD}, {-1, 4, 1, BAD}, {1, 0, 200, 0}};
            for (int[] c : calls) {
                due("rings(" + c[0] + ", " + c[1] + ", " + c[2] + ")", x.rings(c[0], c[1], c[2]), c[3]);
            }
        });
        promise(17, "The first of 200 TURNS from t on in which it has a RING.", () -> {
            RoundAndUp x = eightOfALame();
            due("t itself", x.firstRing(0, 152), 152);
            due("the 200th", x.firstRing(0, 249), 448);
            due("it would be the 201st", x.firstRing(0, 248), NONE);
            due("firstRing(0, 153)", x.firstRing(0, 153), NONE);
        });
        promise(17, "BAD; NONE.", () -> {
            RoundAndUp x = horses(4, 0);
            due("never HIGH", x.firstRing(0, 0), NONE);
            due("firstRing(1, 0)", x.firstRing(1, 0), BAD);
            due("firstRing(-1, 0)", x.firstRing(-1, 0), BAD);
            due("firstRing(0, -1)", x.firstRing(0, -1), BAD);
            due("firstRing(0, 10000)", x.firstRing(0, 10000), BAD);
        });
        promise(18, "The ANIMAL with most RINGS in n TURNS (1 to 200) from t on; of several the least.", () -> {
            RoundAndUp x = horses(2, 0, 0, 0);
            x.level(0);
            due("all three have one", x.mostRings(0, 3), 0);
            due("in turn 0 the first", x.mostRings(0, 1), 0);
            due("in turn 1 the last", x.mostRings(1, 1), 2);
            due("in turns 1, 2 two have one", x.mostRings(1, 2), 1);
            due("200 turns: 67, 66, 67", x.mostRings(0, 200), 0);
            due("200 turns: 66, 67, 67", x.mostRings(1, 200), 1);
            x.level(7);
            due("none has any", x.mostRings(0, 200), 0);
            due("mostRings(0, 0)", x.mostRings(0, 0), BAD);
            due("mostRings(0, 201)", x.mostRings(0, 201), BAD);
        });
        promise(18, "BAD; NONE: there are no ANIMALS.", () -> {
            RoundAndUp x = new RoundAndUp();
            due("mostRings(0, 1)", x.mostRings(0, 1), NONE);
            due("mostRings(9999, 200)", x.mostRings(9999, 200), NONE);
            due("mostRings(10000, 1)", x.mostRings(10000, 1), BAD);
            due("mostRings(-1, 1)", x.mostRings(-1, 1), BAD);
        });
        promise(19, "The least LEVEL (0 to 7) with which there is no CLASH in n TURNS (1 to 200) from t on (THE RULES ask by it, too).", () -> {
            due("one alone: 0", horses(12, 0).levelFor(0, 200), 0);
            due("without ANIMALS: 0", new RoundAndUp().levelFor(0, 200), 0);
            due("both at 6 in turn 6: 7", horses(12, 0, 0).levelFor(0, 200), 7);
            due("n is 6, turns 0 to 5", horses(12, 0, 0).levelFor(0, 6), 6);
            due("n is 7, turns 0 to 6", horses(12, 0, 0).levelFor(0, 7), 7);
            due("t is 6, n is 1", horses(12, 0, 0).levelFor(6, 1), 7);
            due("t is 7, n is 1", horses(12, 0, 0).levelFor(7, 1), 6);
            due("levelFor(0, 0)", horses(12, 0).levelFor(0, 0), BAD);
            due("levelFor(0, 201)", horses(12, 0).levelFor(0, 201), BAD);
            RoundAndUp x = horses(12, 0, 0);
            text(x, "animal if level = 2 and number = 1 stop;");
            due("by LEVEL 2 one stops", x.levelFor(0, 200), 2);
            due("LEVEL stays", x.level(3), 3);
        });
        promise(19, "BAD; NONE.", () -> {
            RoundAndUp x = ring(WHITE, 12, 0, 0, WHITE, 12, 0, 0);
            due("both at 7 in turn 6", x.levelFor(0, 7), NONE);
            due("turns 0 to 5", x.levelFor(0, 6), 7);
            due("LEVEL stays", x.level(3), 3);
            due("levelFor(-1, 1)", x.levelFor(-1, 1), BAD);
            due("levelFor(10000, 1)", x.levelFor(10000, 1), BAD);
        });
    }

    private static void promises20To25() {
        promise(20, "PHASES of an ANIMAL, as a set. BAD.", () -> {
            RoundAndUp x = horses(12, 0, 0);
            x.level(4);
            due("HIGH at PLACES 4 to 8: 5, 6, 7", x.phases(0), 224);
            x.level(0);
            due("none", x.phases(0), 0);
            x.level(7);
            due("all", x.phases(1), 4095);
            RoundAndUp y = horses(8, 4, 3);
            text(y, "horse stop;");
            due("HIGH by LEVEL 3 at PLACES 3, 4, 5", y.phases(0), 199);
            due("all others", y.phases(1), 199);
            due("phases(2)", x.phases(2), BAD);
            due("phases(-1)", x.phases(-1), BAD);
        });
        promise(21, "PHASE of an ANIMAL in the first TUNED row. BAD; NONE: there is no such row.", () -> {
            RoundAndUp x = horses(12, 5);
            due("one alone", x.tune(0), 0);
            x.animal(HORSE, 12, 5, 0);
            x.level(6);
            due("the second", x.tune(1), 1);
            x.level(0);
            due("by LEVEL 0 none", x.tune(0), NONE);
            due("tune(2)", x.tune(2), BAD);
            due("tune(-1)", x.tune(-1), BAD);
            due("tune(0) without ANIMALS", new RoundAndUp().tune(0), BAD);
        });
        promise(22, "PHASES become the first TUNED row: how many are others than before. NONE.", () -> {
            RoundAndUp x = horses(12, 11, 11, 11, 11, 11, 11, 11, 11, 11);
            x.level(6);
            due("all nine", x.tuneAll(), 9);
            int[] row = {0, 1, 0, 1, 0, 1, 0, 1, 2};
            for (int i = 0; i < 9; i++) {
                due("animalOf(" + i + ", 2)", x.animalOf(i, 2), row[i]);
            }
            due("none", x.tuneAll(), 0);
            x.level(0);
            due("by LEVEL 0", x.tuneAll(), NONE);
            due("animalOf(8, 2)", x.animalOf(8, 2), 2);
        });
        promise(23, "The first TURN (0 to 999) in which an ANIMAL is DOWN and that is beat, modulo roll (2 to 60; beat 0 to roll less 1).", () -> {
            RoundAndUp x = horses(12, 0);
            int[][] calls = {{2, 0, 0}, {2, 1, NONE}, {2, 2, BAD}, {2, -1, BAD}, {1, 0, BAD}, {0, 0, BAD}, {60, 0, 0}, {60, 59, NONE}, {60, 60, BAD}, {61, 0, BAD},
                {59, 58, 648}, {5, 4, 24}, {-2, 0, BAD}, {MIN, MIN, BAD}};
            for (int[] c : calls) {
                due("organ(0, " + c[0] + ", " + c[1] + ")", x.organ(0, c[0], c[1]), c[2]);
            }
            // 999 and 142 TEETH by 999, 1000 and 142 by 1000.
            RoundAndUp late = ring(LAME, 9, 2, 0, LAME, 5, 3, 0);
            due("999 is the first of 12, 59, ..", late.organ(0, 47, 12), 999);
            due("1000 would be the first of 40, 88, ..", late.organ(1, 48, 40), NONE);
            due("in turn 1000 it is down", late.together(2, 1000), 1000);
        });
        promise(23, "BAD; NONE.", () -> {
            RoundAndUp x = horses(12, 1);
            due("down in odd turns alone", x.organ(0, 2, 0), NONE);
            due("organ(1, 2, 0)", x.organ(1, 2, 0), BAD);
            due("organ(-1, 2, 0)", x.organ(-1, 2, 0), BAD);
        });
        promise(24, "The first of 1000 TURNS from t on in which all of a set are DOWN.", () -> {
            // 1005 is 4 modulo 11, 6 modulo 9, 5 modulo 10, 4 modulo 7; the next such is 6930 on.
            RoundAndUp x = ring(HORSE, 11, 7, 0, HORSE, 9, 3, 0, HORSE, 10, 5, 0, HORSE, 7, 3, 0);
            due("t itself", x.together(15, 1005), 1005);
            due("the 1000th", x.together(15, 6), 1005);
            due("it would be the 1001st", x.together(15, 5), NONE);
            due("it is behind", x.together(15, 1006), NONE);
            due("all of none", x.together(0, 7), 7);
            RoundAndUp white = ring(HORSE, 3, 0, 0, WHITE, 4, 1, 0);
            due("DOWN by PLACE, not by HEIGHT", white.together(2, 0), 3);
            text(white, "horse if crank = 3 stop;");
            due("the horse stops, down; the white one goes", white.together(3, 4), 7);
            text(white, "white stop;");
            due("the white one stops, asked first of all", white.together(2, 0), NONE);
        });
        promise(24, "BAD: also a set with others; NONE.", () -> {
            RoundAndUp x = horses(12, 0, 1);
            due("never both", x.together(3, 0), NONE);
            due("together(4, 0)", x.together(4, 0), BAD);
            due("together(7, 0)", x.together(7, 0), BAD);
            due("together(-1, 0)", x.together(-1, 0), BAD);
            due("together(MIN, 0)", x.together(MIN, 0), BAD);
            due("together(0, -1)", x.together(0, -1), BAD);
            due("together(0, 10000)", x.together(0, 10000), BAD);
            due("together(511, 0) of nine", nine().together(511, 1), 12);
            due("together(512, 0) of nine", nine().together(512, 1), BAD);
        });
        promise(25, "The least ANIMAL after whose SLIP by 1 those that are HIGH in TURN t would be a set.", () -> {
            RoundAndUp x = horses(6, 2, 2, 3);
            due("0 comes up", x.slipped(0, 5), 0);
            due("1 comes up", x.slipped(0, 6), 1);
            due("2 goes down", x.slipped(0, 0), 2);
            x.change(0, 2, 0);
            due("0 stays down: of 0 alone", x.slipped(0, 4), 0);
            // By PHASE 11 on CRANK 6 it is at PLACE 5, behind the SLIP at 0: nothing is HIGH but the third.
            x.change(0, 2, 11);
            due("SLIP wraps", x.slipped(0, 4), 0);
            due("SLIP wraps, in turn 3", x.slipped(3, 1), 0);
            due("PHASES stay", x.animalOf(0, 2), 11);
            // The second stops at PLACE 4 and is HIGH; in turn 2 the first is at PLACE 5, behind the SLIP at 6.
            RoundAndUp y = horses(8, 3, 4);
            text(y, "horse if number = 1 stop;");
            due("the other one stops, asked first of all", y.slipped(2, 2), 0);
            RoundAndUp z = ring(HORSE, 8, 2, 0, LAME, 2, 0, 0, LAME, 2, 0, 0, LAME, 2, 0, 0);
            text(z, "horse stop;");
            due("by its own RULE: stopped at PLACE 3", z.slipped(4, 1), 0);
            RoundAndUp w = ring(LAME, 2, 0, 0, LAME, 2, 0, 0, SWAN, 8, 1, 0);
            due("by its own KIND: half of 3 and 2", w.slipped(3, 4), 2);
            due("it isn't HIGH yet", w.high(3), 0);
            due("HIGH by more than LEVEL", horses(8, 3).slipped(0, 1), 0);
            due("no more HIGH", horses(8, 5).slipped(0, 0), 0);
        });
        promise(25, "BAD: also a set with others; NONE.", () -> {
            RoundAndUp x = horses(6, 2, 2);
            due("both", x.slipped(0, 3), NONE);
            due("none", x.slipped(0, 0), NONE);
            due("slipped(0, 4)", x.slipped(0, 4), BAD);
            due("slipped(0, -1)", x.slipped(0, -1), BAD);
            due("slipped(-1, 0)", x.slipped(-1, 0), BAD);
            due("slipped(10000, 0)", x.slipped(10000, 0), BAD);
            due("without ANIMALS", new RoundAndUp().slipped(0, 0), NONE);
            due("one of none", new RoundAndUp().slipped(0, 1), BAD);
        });
    }

    private static void promises26To32() {
        promise(26, "A CHILD: its number. BAD; FULL.", () -> {
            RoundAndUp x = horses(8, 0);
            due("child(2, 0)", x.child(2, 0), BAD);
            due("child(-1, 0)", x.child(-1, 0), BAD);
            due("child(1, -1)", x.child(1, -1), BAD);
            due("child(1, 1000)", x.child(1, 1000), BAD);
            for (int c = 0; c < 8; c++) {
                due("child(1, 999)", x.child(1, 999), c);
            }
            due("a ninth", x.child(0, 0), FULL);
            due("a wrong ninth", x.child(2, 0), BAD);
            x.away();
            due("the first behind away()", x.child(0, 0), 0);
        });
        promise(27, "Of a CHILD: what = 0 WISH, 1 COINS, 2 RIDES (-9: none). BAD.", () -> {
            RoundAndUp x = horses(8, 0);
            due("childOf(0, 0) without CHILDREN", x.childOf(0, 0), BAD);
            x.child(1, 999);
            int[] want = {BAD, 1, 999, -9, BAD};
            for (int what = -1; what <= 3; what++) {
                due("childOf(0, " + what + ")", x.childOf(0, what), want[what + 1]);
                due("childOf(1, " + what + ")", x.childOf(1, what), BAD);
                due("childOf(-1, " + what + ")", x.childOf(-1, what), BAD);
            }
            x.ride();
            due("ANIMAL 0 is ridden", x.childOf(0, 2), 0);
            x.away();
            x.child(1, 999);
            due("a new CHILD has ridden none", x.childOf(0, 2), -9);
        });
        promise(28, "COINS of a CHILD become v: what they were. BAD.", () -> {
            RoundAndUp x = new RoundAndUp();
            x.child(0, 5);
            int[][] calls = {{0, -1, BAD}, {0, 0, 5}, {0, 999, 0}, {0, 1000, BAD}, {1, 5, BAD}, {-1, 5, BAD}, {8, 5, BAD}, {0, MIN, BAD}, {0, MAX, BAD}, {0, 1, 999}};
            for (int[] c : calls) {
                due("coins(" + c[0] + ", " + c[1] + ")", x.coins(c[0], c[1]), c[2]);
            }
        });
        promise(29, "PRICES NOW together by SEATS.", () -> {
            due("without CHILDREN", nine().seats(), 0);
            due("without both", new RoundAndUp().seats(), 0);
            RoundAndUp none = new RoundAndUp();
            none.child(0, 999);
            due("without ANIMALS", none.seats(), 0);
            RoundAndUp x = new RoundAndUp();
            for (int i = 0; i < 9; i++) {
                x.animal(SWAN, 8, 0, 99);
            }
            text(x, "swan dear 99;");
            for (int c = 0; c < 8; c++) {
                x.child(511, 396);
            }
            due("eight of 396", x.seats(), 3168);
        });
        promise(30, "On which ANIMAL a CHILD is by SEATS. BAD; NONE: on none.", () -> {
            RoundAndUp x = nine();
            due("seat(0) without CHILDREN", x.seat(0), BAD);
            for (int c = 0; c < 8; c++) {
                x.child(256 >> c, 0);
            }
            for (int c = 0; c < 8; c++) {
                due("seat(" + c + ")", x.seat(c), 8 - c);
            }
            due("seat(8)", x.seat(8), BAD);
            due("seat(-1)", x.seat(-1), BAD);
            x.change(0, 3, 1);
            x.away();
            x.child(1, 0);
            due("on none", x.seat(0), NONE);
        });
        promise(31, "They ride so: each that is on one pays its PRICE NOW, RIDES is that: how many ride.", () -> {
            due("without CHILDREN", nine().ride(), 0);
            RoundAndUp x = ring(SWAN, 8, 0, 5, HORSE, 8, 0, 0);
            x.child(1, 10);
            x.child(1, 9);
            x.child(2, 0);
            due("two of three", x.ride(), 2);
            int[][] want = {{1, 0, 0}, {1, 9, -9}, {2, 0, 1}};
            for (int c = 0; c < 3; c++) {
                for (int what = 0; what < 3; what++) {
                    due("childOf(" + c + ", " + what + ")", x.childOf(c, what), want[c][what]);
                }
            }
            RoundAndUp eight = nine();
            for (int c = 0; c < 8; c++) {
                eight.child(511, 0);
            }
            due("all eight", eight.ride(), 8);
        });
        promise(32, "There are no CHILDREN: how many there were.", () -> {
            RoundAndUp x = new RoundAndUp();
            due("none", x.away(), 0);
            for (int c = 0; c < 8; c++) {
                x.child(0, c);
            }
            due("eight", x.away(), 8);
            due("many(2)", x.many(2), 0);
            due("again none", x.away(), 0);
        });
    }

    private static void promises33To36() {
        promise(33, "A PHOTO: its number. BAD; FULL.", () -> {
            RoundAndUp x = horses(8, 0);
            int[][] bad = {{1, 0, 0}, {-1, 0, 0}, {0, -1, 0}, {0, 10000, 0}, {0, 0, -1}, {0, 0, 10}};
            for (int[] b : bad) {
                due("photo(" + b[0] + ", " + b[1] + ", " + b[2] + ")", x.photo(b[0], b[1], b[2]), BAD);
            }
            for (int k = 0; k < 6; k++) {
                due("photo(0, 9999, 9)", x.photo(0, 9999, 9), k);
            }
            due("a seventh", x.photo(0, 0, 0), FULL);
            for (int[] b : bad) {
                due("a wrong seventh", x.photo(b[0], b[1], b[2]), BAD);
            }
            x.burn();
            due("the first behind burn()", x.photo(0, 0, 0), 0);
        });
        promise(34, "There are no PHOTOS: how many there were.", () -> {
            RoundAndUp x = horses(8, 0);
            due("none", x.burn(), 0);
            for (int k = 0; k < 6; k++) {
                x.photo(0, k, 9);
            }
            due("six", x.burn(), 6);
            due("many(3)", x.many(3), 0);
            due("all FIT", x.fits(0), 255);
        });
        promise(35, "FITS of an ANIMAL, as a set. BAD.", () -> {
            RoundAndUp x = nine();
            due("all", x.fits(8), 4095);
            x.photo(8, 1, 0);
            due("PHASE 11", x.fits(8), 2048);
            x.photo(8, 0, 0);
            due("none", x.fits(8), 0);
            due("fits(9)", x.fits(9), BAD);
            due("fits(-1)", x.fits(-1), BAD);
        });
        promise(36, "LIAR of an ANIMAL. BAD; NONE: some FIT; or there is no such PHOTO.", () -> {
            RoundAndUp x = horses(8, 0, 0);
            due("liar(2)", x.liar(2), BAD);
            due("liar(-1)", x.liar(-1), BAD);
            due("some FIT", x.liar(0), NONE);
            for (int k = 0; k < 5; k++) {
                x.photo(0, k, k);
            }
            due("some FIT", x.liar(0), NONE);
            x.photo(0, 5, 5);
            due("the sixth", x.liar(0), 5);
            x.burn();
            x.photo(0, 0, 9);
            x.photo(0, 0, 9);
            due("no such PHOTO", x.liar(0), NONE);
        });
    }

    private static void promises37To40() {
        promise(37, "ROWS of an ANIMAL: how many. BAD.", () -> {
            RoundAndUp x = horses(8, 0);
            int[][] calls = {{0, 0, 0, BAD}, {0, 0, 1, 1}, {0, 0, 20, 20}, {0, 0, 21, BAD}, {0, -1, 1, BAD}, {0, 10000, 1, BAD}, {1, 0, 1, BAD}, {-1, 0, 1, BAD}, {0, 9999, 2, 2}, {0, 0, MIN, BAD}};
            for (int[] c : calls) {
                due("prove(" + c[0] + ", " + c[1] + ", " + c[2] + ")", x.prove(c[0], c[1], c[2]), c[3]);
            }
            due("many(4): those told in the latest", x.many(4), 2);
        });
        promise(38, "Of ROW k: what = 0 TURN, 1 PLACE, 2 HEIGHT. -9: there is none such, another what.", () -> {
            RoundAndUp x = horses(8, 5);
            due("row(0, 0) of none", x.row(0, 0), -9);
            x.prove(0, 9999, 20);
            due("row(19, 0)", x.row(19, 0), 10018);
            due("row(19, 1): 10023 modulo 8", x.row(19, 1), 7);
            due("row(19, 2)", x.row(19, 2), 1);
            int[][] none = {{20, 0}, {-1, 0}, {0, 3}, {0, -1}, {1, -1}, {MAX, MAX}, {MIN, MIN}};
            for (int[] c : none) {
                due("row(" + c[0] + ", " + c[1] + ")", x.row(c[0], c[1]), -9);
            }
            x.prove(0, 0, 1);
            due("row(1, 0) of one", x.row(1, 0), -9);
            due("row(19, 0) of one", x.row(19, 0), -9);
            due("alterRow(19, 0, 1) of one", x.alterRow(19, 0, 1), -9);
            x.prove(0, 0, 20);
            due("it wasn't altered", x.row(19, 0), 19);
        });
        promise(39, "It becomes v: what it was. -9 likewise.", () -> {
            RoundAndUp x = horses(8, 5);
            due("alterRow(0, 0, 1) of none", x.alterRow(0, 0, 1), -9);
            x.prove(0, 0, 2);
            due("alterRow(1, 2, MIN)", x.alterRow(1, 2, MIN), 2);
            due("alterRow(1, 2, MAX)", x.alterRow(1, 2, MAX), MIN);
            due("alterRow(0, 0, -9)", x.alterRow(0, 0, -9), 0);
            int[][] none = {{2, 0}, {-1, 0}, {0, 3}, {0, -1}, {1, -1}, {MAX, MAX}, {MIN, MIN}};
            for (int[] c : none) {
                due("alterRow(" + c[0] + ", " + c[1] + ", 1)", x.alterRow(c[0], c[1], 1), -9);
            }
            int[][] want = {{-9, 5, 3}, {1, 6, MAX}};
            for (int k = 0; k < 2; k++) {
                for (int what = 0; what < 3; what++) {
                    due("row(" + k + ", " + what + ")", x.row(k, what), want[k][what]);
                }
            }
        });
        promise(40, "0 all is right; else the first ROW that isn't, and 1 more. BAD.", () -> {
            RoundAndUp x = horses(8, 0);
            due("no ROWS", x.judge(0), 0);
            due("judge(1) without ROWS", x.judge(1), BAD);
            x.prove(0, 0, 20);
            due("20 right ones", x.judge(0), 0);
            x.alterRow(19, 2, 9);
            due("the last isn't", x.judge(0), 20);
            x.alterRow(0, 2, 9);
            due("the first isn't", x.judge(0), 1);
            due("judge(1)", x.judge(1), BAD);
            due("judge(-1)", x.judge(-1), BAD);
        });
    }

    private static void promises41To43() {
        promise(41, "A SHEET becomes a row of n of a sort, all 0, or missing (sort -1; n counts nothing then): 1.", () -> {
            RoundAndUp x = new RoundAndUp();
            for (int sort = 0; sort < 5; sort++) {
                x.sheet(0, sort, 2);
                x.write(0, 1, 1);
                due("sheet(0, " + sort + ", 2) anew", x.sheet(0, sort, 2), 1);
                due("all 0", x.item(0, sort, 1), 0);
            }
            due("a row of none", x.sheet(0, 0, 0), 1);
            due("is not missing", x.item(0, 0, 0), OUTSIDE);
            int[] sizes = {0, -1, 41, MIN, MAX};
            for (int n : sizes) {
                x.sheet(0, 0, 1);
                due("sheet(0, -1, " + n + ")", x.sheet(0, -1, n), 1);
                due("is missing", x.item(0, 0, 0), NOTHING);
            }
        });
        promise(41, "BAD: no such SHEET, sort, n above 40; -14.", () -> {
            RoundAndUp x = new RoundAndUp();
            int[][] calls = {{-1, 0, 1, BAD}, {4, 0, 1, BAD}, {-1, -1, 0, BAD}, {4, -1, 0, BAD}, {0, -2, 1, BAD}, {0, 5, 1, BAD}, {0, 0, 41, BAD}, {0, 4, MAX, BAD},
                {0, 0, -1, SIZE}, {0, 4, MIN, SIZE}, {4, 0, -1, BAD}, {0, 5, -1, BAD}};
            for (int[] c : calls) {
                due("sheet(" + c[0] + ", " + c[1] + ", " + c[2] + ")", x.sheet(c[0], c[1], c[2]), c[3]);
                due("still missing", x.item(0, 0, 0), NOTHING);
            }
        });
        promise(42, "Item i becomes v, narrowed to its sort (booleans: whether it is not 0): 1.", () -> {
            int[] told = {127, 128, 255, 256, -128, -129, 32767, 32768, 65535, 65536, -32769, MAX, MIN, 0, 1, -1};
            int[][] want = {{127, -128, -1, 0, -128, 127, -1, 0, -1, 0, -1, -1, 0, 0, 1, -1},
                {127, 128, 255, 256, -128, -129, 32767, -32768, -1, 0, 32767, -1, 0, 0, 1, -1}, told, told, {1, 1, 1, 1, 1, 1, 1, 1, 1, 1, 1, 1, 1, 0, 1, 1}};
            for (int sort = 0; sort < 5; sort++) {
                RoundAndUp x = new RoundAndUp();
                x.sheet(0, sort, 1);
                for (int k = 0; k < told.length; k++) {
                    due("write(0, 0, " + told[k] + ")", x.write(0, 0, told[k]), 1);
                    due(told[k] + " as sort " + sort, x.item(0, sort, 0), want[sort][k]);
                }
            }
        });
        promise(42, "BAD: no such SHEET; -11; -12.", () -> {
            RoundAndUp x = new RoundAndUp();
            x.sheet(3, 1, 40);
            x.sheet(1, 1, 0);
            int[][] calls = {{-1, 0, BAD}, {4, 0, BAD}, {4, -1, BAD}, {2, 0, NOTHING}, {2, -1, NOTHING}, {2, 40, NOTHING}, {3, -1, OUTSIDE}, {3, 0, 1}, {3, 39, 1}, {3, 40, OUTSIDE},
                {3, MIN, OUTSIDE}, {3, MAX, OUTSIDE}, {1, 0, OUTSIDE}};
            for (int[] c : calls) {
                due("write(" + c[0] + ", " + c[1] + ", 7)", x.write(c[0], c[1], 7), c[2]);
            }
        });
        promise(43, "Item i, taken for a sort (0 to 4; of longs the lowest 32 bits; of booleans 1, 0).", () -> {
            for (int sort = 0; sort < 5; sort++) {
                RoundAndUp x = new RoundAndUp();
                x.sheet(0, sort, 1);
                for (int as = -1; as <= 5; as++) {
                    due("item(0, " + as + ", 0) of sort " + sort, x.item(0, as, 0), as < 0 || as > 4 ? BAD : as == sort ? 0 : SORT);
                }
            }
            RoundAndUp x = new RoundAndUp();
            x.sheet(0, 3, 1);
            x.write(0, 0, MIN);
            due("a long of MIN", x.item(0, 3, 0), MIN);
            x.sheet(0, 4, 1);
            x.write(0, 0, 256);
            due("a boolean by 256", x.item(0, 4, 0), 1);
        });
        promise(43, "BAD: no such SHEET, sort; -13; -11; -12. (An item may be as low as these, too.)", () -> {
            RoundAndUp x = new RoundAndUp();
            x.sheet(3, 2, 40);
            x.sheet(0, 2, 0);
            int[][] calls = {{-1, 2, 0, BAD}, {4, 2, 0, BAD}, {3, -1, 0, BAD}, {3, 5, 0, BAD}, {3, 3, 0, SORT}, {3, 3, 40, SORT}, {1, 2, 0, NOTHING}, {1, 2, -1, NOTHING},
                {3, 2, -1, OUTSIDE}, {3, 2, 0, 0}, {3, 2, 39, 0}, {3, 2, 40, OUTSIDE}, {3, 2, MIN, OUTSIDE}, {3, 2, MAX, OUTSIDE}, {0, 2, 0, OUTSIDE}, {0, 1, 0, SORT}};
            for (int[] c : calls) {
                due("item(" + c[0] + ", " + c[1] + ", " + c[2] + ")", x.item(c[0], c[1], c[2]), c[3]);
            }
            int[] low = {BAD, SORT, NOTHING, OUTSIDE, SIZE, PARTED};
            for (int v : low) {
                x.write(3, 0, v);
                due("an item that is " + v, x.item(3, 2, 0), v);
            }
        });
    }

    private static RoundAndUp nineWithBytes(int... bytes) {
        RoundAndUp x = horses(12, 5, 5, 5, 5, 5, 5, 5, 5, 5);
        x.sheet(1, 0, bytes.length);
        for (int k = 0; k < bytes.length; k++) {
            x.write(1, k, bytes[k]);
        }
        return x;
    }

    private static void duePhases(RoundAndUp x, int... phases) {
        for (int i = 0; i < phases.length; i++) {
            due("PHASE of " + i, x.animalOf(i, 2), phases[i]);
        }
    }

    private static void promise44() {
        promise(44, "n (0 to 9) items of a SHEET taken for bytes, from item k on, become PHASES of ANIMALS", () -> {
            RoundAndUp x = nineWithBytes(9, 8, 7, 6, 4, 3, 2, 1, 0, 11);
            due("sets(1, 0, -1)", x.sets(1, 0, -1), BAD);
            due("sets(1, 0, 0)", x.sets(1, 0, 0), 0);
            due("sets(1, 0, 10)", x.sets(1, 0, 10), BAD);
            duePhases(x, 5, 5, 5, 5, 5, 5, 5, 5, 5);
            due("sets(1, 9, 1)", x.sets(1, 9, 1), 1);
            duePhases(x, 11, 5, 5, 5, 5, 5, 5, 5, 5);
            due("sets(1, 1, 9)", x.sets(1, 1, 9), 9);
            duePhases(x, 8, 7, 6, 4, 3, 2, 1, 0, 11);
        });
        promise(44, "(those that change() refuses are left out), from ANIMAL 0 on: how many came.", () -> {
            RoundAndUp x = nineWithBytes(-1, 0, 11, 12, 127, -128, 3, 256, 2);
            due("five come, 256 as 0", x.sets(1, 0, 9), 5);
            duePhases(x, 5, 0, 11, 5, 5, 5, 3, 0, 2);
            RoundAndUp y = horses(12, 5);
            y.sheet(0, 0, 40);
            due("one ANIMAL for 9 items", y.sets(0, 0, 9), 1);
            RoundAndUp z = new RoundAndUp();
            z.sheet(0, 0, 40);
            due("none for 9 items", z.sets(0, 31, 9), 0);
        });
        promise(44, "BAD: no such SHEET, n; -13; -11;", () -> {
            RoundAndUp x = new RoundAndUp();
            x.sheet(1, 4, 9);
            int[][] calls = {{-1, 0, 1, BAD}, {4, 0, 1, BAD}, {4, 0, 0, BAD}, {0, 0, 10, BAD}, {0, 0, -1, BAD}, {1, 0, 10, BAD}, {1, 0, 1, SORT}, {1, 0, 0, SORT}, {1, 9, 1, SORT},
                {0, 0, 1, NOTHING}, {0, 0, 0, NOTHING}, {0, -1, 9, NOTHING}};
            for (int[] c : calls) {
                due("sets(" + c[0] + ", " + c[1] + ", " + c[2] + ")", x.sets(c[0], c[1], c[2]), c[3]);
            }
        });
        promise(44, "-12: what stood ahead came.", () -> {
            RoundAndUp x = nineWithBytes(1, 2, 3);
            due("sets(1, 1, 3)", x.sets(1, 1, 3), OUTSIDE);
            duePhases(x, 2, 3, 5, 5, 5, 5, 5, 5, 5);
            due("sets(1, 3, 1)", x.sets(1, 3, 1), OUTSIDE);
            due("sets(1, -1, 3)", x.sets(1, -1, 3), OUTSIDE);
            due("sets(1, MAX, 9)", x.sets(1, MAX, 9), OUTSIDE);
            due("sets(1, MIN, 9)", x.sets(1, MIN, 9), OUTSIDE);
            due("sets(1, -9, 9)", x.sets(1, -9, 9), OUTSIDE);
            duePhases(x, 2, 3, 5, 5, 5, 5, 5, 5, 5);
            due("sets(1, 0, 3)", x.sets(1, 0, 3), 3);
            RoundAndUp y = new RoundAndUp();
            y.sheet(0, 0, 2);
            due("a place outside is asked without ANIMALS, too", y.sets(0, 0, 3), OUTSIDE);
        });
    }

    private static void promises45To48() {
        promise(45, "A SHELF holds ANIMAL n (what 0), the row of SHEET n (1; nothing, if missing), nothing (2): 1.", () -> {
            RoundAndUp x = horses(8, 0, 0);
            due("shelf(0, 0, 1)", x.shelf(0, 0, 1), 1);
            due("ANIMAL 1", x.taken(0, 0), 1);
            due("shelf(0, 1, 3), missing", x.shelf(0, 1, 3), 1);
            due("nothing", x.taken(0, 0), NOTHING);
            x.sheet(3, 4, 40);
            due("shelf(0, 1, 3)", x.shelf(0, 1, 3), 1);
            due("40 booleans", x.taken(0, 14), 40);
            due("shelf(0, 2, 0)", x.shelf(0, 2, 0), 1);
            due("nothing", x.taken(0, 14), NOTHING);
            due("the SHEET stays", x.item(3, 4, 39), 0);
        });
        promise(45, "(1; nothing, if missing), nothing (2)", () -> {
            RoundAndUp x = horses(8, 0);
            x.sheet(0, 0, 3);
            x.shelf(0, 0, 0);
            due("a horse", x.act(0, 0, 5), 15);
            x.shelf(0, 1, 0);
            due("a row in its place", x.taken(0, 10), 3);
            due("is no thing that acts", x.act(0, 0, 5), 0);
            due("is no horse", x.taken(0, 1), SORT);
            x.shelf(0, 0, 0);
            due("a horse in its place", x.taken(0, 1), 0);
            due("is no row", x.taken(0, 10), SORT);
            due("acts", x.act(0, 0, 5), 15);
            x.shelf(0, 1, 1);
            due("nothing in its place, as it is missing", x.taken(0, 1), NOTHING);
            due("doesn't act", x.act(0, 0, 5), 0);
            x.shelf(0, 1, 0);
            x.shelf(0, 2, -1);
            due("nothing in a row's place, whatever n is", x.taken(0, 10), NOTHING);
            x.shelf(0, 0, 0);
            x.shelf(0, 2, MAX);
            due("nothing in a horse's place", x.taken(0, 1), NOTHING);
            due("doesn't act", x.act(0, 0, 5), 0);
        });
        promise(45, "BAD: no such SHELF, what, thing.", () -> {
            RoundAndUp x = horses(8, 0, 0);
            x.shelf(0, 0, 1);
            int[][] calls = {{-1, 0, 0}, {4, 0, 0}, {4, 1, 0}, {-1, 2, 0}, {0, -1, 0}, {0, 3, 0}, {0, 0, -1}, {0, 0, 2}, {0, 1, -1}, {0, 1, 4}, {MIN, MIN, MIN}, {MAX, MAX, MAX}};
            for (int[] c : calls) {
                due("shelf(" + c[0] + ", " + c[1] + ", " + c[2] + ")", x.shelf(c[0], c[1], c[2]), BAD);
                due("ANIMAL 1 is on it still", x.taken(0, 0), 1);
            }
        });
        promise(46, "What a SHELF holds taken for a thing of KIND as (0 to 5, or one under it): its number", () -> {
            RoundAndUp x = new RoundAndUp();
            for (int i = 0; i < 9; i++) {
                x.animal(WHITE, 8, 0, 0);
            }
            x.shelf(3, 0, 8);
            int[] want = {BAD, 8, 8, SORT, 8, SORT, SORT, BAD};
            for (int as = -1; as <= 6; as++) {
                due("a white one taken for " + as, x.taken(3, as), want[as + 1]);
            }
        });
        promise(46, "for a row of sort as - 10 (as 10 to 14): how many items.", () -> {
            for (int sort = 0; sort < 5; sort++) {
                RoundAndUp x = new RoundAndUp();
                x.sheet(0, sort, 0);
                x.shelf(0, 1, 0);
                x.sheet(0, sort, 40);
                x.shelf(1, 1, 0);
                for (int as = 9; as <= 15; as++) {
                    boolean isBad = as == 9 || as == 15;
                    due("0 items of sort " + sort + " taken for " + as, x.taken(0, as), isBad ? BAD : as == 10 + sort ? 0 : SORT);
                    due("40 items of sort " + sort + " taken for " + as, x.taken(1, as), isBad ? BAD : as == 10 + sort ? 40 : SORT);
                }
            }
        });
        promise(46, "BAD: no such SHELF, as; -13; -11.", () -> {
            RoundAndUp x = horses(8, 0);
            x.sheet(0, 0, 1);
            x.shelf(1, 0, 0);
            x.shelf(2, 1, 0);
            int[][] calls = {{-1, 0, BAD}, {4, 0, BAD}, {4, 10, BAD}, {1, -1, BAD}, {1, 6, BAD}, {1, 9, BAD}, {1, 15, BAD}, {1, MIN, BAD}, {1, MAX, BAD}, {0, 6, BAD},
                {1, 2, SORT}, {1, 10, SORT}, {2, 0, SORT}, {2, 11, SORT}, {0, 0, NOTHING}, {0, 5, NOTHING}, {0, 10, NOTHING}, {3, 14, NOTHING}};
            for (int[] c : calls) {
                due("taken(" + c[0] + ", " + c[1] + ")", x.taken(c[0], c[1]), c[2]);
            }
        });
        promise(47, "An ACT (0 to 3) of the thing on a SHELF, with x.", () -> {
            RoundAndUp x = ring(WHITE, 8, 0, 0);
            x.shelf(3, 0, 0);
            int[] want = {0, 15, 30, 0, 30 ^ 8, 0};
            for (int act = -1; act <= 4; act++) {
                due("act(3, " + act + ", 5)", x.act(3, act, 5), want[act + 1]);
            }
        });
        promise(47, "0, and no TRACE then: no such SHELF, act, nothing, a row.", () -> {
            RoundAndUp x = horses(8, 0);
            x.sheet(0, 2, 1);
            x.shelf(0, 0, 0);
            x.shelf(1, 1, 0);
            int[][] calls = {{-1, 0}, {4, 0}, {0, -1}, {0, 4}, {2, 0}, {1, 0}, {MIN, MIN}, {MAX, MAX}};
            for (int[] c : calls) {
                due("act(0, 0, 5)", x.act(0, 0, 5), 15);
                dueTrace(x, 20, 10);
                due("act(" + c[0] + ", " + c[1] + ", 5)", x.act(c[0], c[1], 5), 0);
                dueTrace(x);
                due("trace(0)", x.trace(0), NONE);
            }
        });
        promise(48, "THE TRACE's i-th body. NONE.", () -> {
            RoundAndUp x = horses(8, 0);
            due("trace(0) ahead of all acts", x.trace(0), NONE);
            x.shelf(0, 0, 0);
            x.act(0, 3, 5);
            int[][] calls = {{-1, NONE}, {0, 13}, {3, 10}, {4, NONE}, {29, NONE}, {30, NONE}, {MIN, NONE}, {MAX, NONE}};
            for (int[] c : calls) {
                due("trace(" + c[0] + ")", x.trace(c[0]), c[1]);
            }
            x.act(0, 0, 5);
            due("the latest act has two", x.trace(2), NONE);
        });
    }

    private static void alterAllThatIsKept(RoundAndUp x) {
        for (int i = 0; i < 9; i++) {
            x.paint(i, LAME);
            x.change(i, 1, 11);
            x.change(i, 2, 10);
            x.change(i, 3, 98);
        }
        x.away();
        for (int c = 0; c < 8; c++) {
            x.child(1, 98);
        }
        x.ride();
        x.burn();
        for (int k = 0; k < 6; k++) {
            x.photo(8, 7, 0);
        }
        x.level(7);
        x.turn(9);
    }

    private static void promises49To51() {
        promise(49, "5 bytes of THE TAPE, 6 bodies of THE TRACE (those kept, 30 at most). BAD: another what.", () -> {
            RoundAndUp none = new RoundAndUp();
            RoundAndUp x = full();
            int[] want = {BAD, 9, 2, 8, 6, 4, 194, 7, BAD};
            for (int what = -1; what <= 7; what++) {
                due("many(" + what + ") of a new one", none.many(what), what < 0 || what > 6 ? BAD : 0);
                due("many(" + what + ")", x.many(what), want[what + 1]);
            }
            due("many(MIN)", x.many(MIN), BAD);
            due("many(MAX)", x.many(MAX), BAD);
        });
        promise(50, "All but THE TAPE, ROWS, SHEETS, SHELVES, THE TRACE is kept: 1.", () -> {
            due("keep() of a new one", new RoundAndUp().keep(), 1);
            RoundAndUp x = horses(8, 0);
            due("keep()", x.keep(), 1);
            x.feed(0x3b706f7473206e61L, 8);
            x.prove(0, 3, 2);
            x.sheet(0, 0, 1);
            x.write(0, 0, 7);
            x.shelf(0, 0, 0);
            x.act(0, 0, 5);
            x.again();
            due("many(5)", x.many(5), 8);
            due("row(1, 0)", x.row(1, 0), 4);
            due("item(0, 0, 0)", x.item(0, 0, 0), 7);
            due("taken(0, 0)", x.taken(0, 0), 0);
            dueTrace(x, 20, 10);
            due("THE TAPE is 'an stop;'", x.rules(), -100);
        });
        promise(50, "is kept", () -> {
            RoundAndUp x = full();
            RoundAndUp y = full();
            due("keep()", y.keep(), 1);
            alterAllThatIsKept(y);
            due("again()", y.again(), 9);
            List<Integer> was = new ArrayList<>();
            List<Integer> now = new ArrayList<>();
            look(x, was);
            look(y, now);
            due("all is as it was", was.equals(now) ? 1 : 0, 1);
            due("LEVEL", y.level(1), 0);
            due("TURN", y.turn(1), 9991);
            RoundAndUp z = nine();
            for (int c = 0; c < 8; c++) {
                z.child(1 << 8 - c, 10 + c);
            }
            due("all ride", z.ride(), 8);
            z.keep();
            z.away();
            for (int c = 0; c < 8; c++) {
                z.child(0, 0);
            }
            z.again();
            for (int c = 0; c < 8; c++) {
                due("WISH of " + c, z.childOf(c, 0), 1 << 8 - c);
                due("COINS of " + c, z.childOf(c, 1), 10 + c);
                due("RIDES of " + c, z.childOf(c, 2), 8 - c);
            }
        });
        promise(51, "It becomes what was kept latest (which stays): how many ANIMALS.", () -> {
            RoundAndUp x = new RoundAndUp();
            x.keep();
            RoundAndUp y = nine();
            y.keep();
            for (int k = 0; k < 9; k++) {
                x.animal(LAME, 2, 1, 99);
            }
            x.level(7);
            x.turn(500);
            x.child(511, 999);
            x.photo(8, 9999, 9);
            text(x, "lame stop;");
            due("none", x.again(), 0);
            for (int what = 0; what < 4; what++) {
                due("many(" + what + ")", x.many(what), 0);
            }
            due("LEVEL", x.level(3), 3);
            due("TURN", x.turn(1), 1);
            due("all nine", y.again(), 9);
            y.paint(8, OSTRICH);
            y.change(8, 2, 11);
            due("it stays: all nine again", y.again(), 9);
            due("KIND of the ninth", y.animalOf(8, 0), HORSE);
            due("PHASE of the ninth", y.animalOf(8, 2), 0);
            y.change(8, 2, 7);
            y.keep();
            y.change(8, 2, 3);
            y.again();
            due("the latest", y.animalOf(8, 2), 7);
        });
        promise(51, "NONE: nothing is kept.", () -> {
            RoundAndUp x = new RoundAndUp();
            due("again()", x.again(), NONE);
            x.keep();
            due("again() behind keep() of none", x.again(), 0);
            due("again() of another object", new RoundAndUp().again(), NONE);
        });
    }

    public static void main(String[] args) throws Exception {
        if (Files.exists(DOCUMENT)) {
            readDocument();
        }
        theFace();
        refusals();
        severalRefusals();
        numbersOfAnimals();
        theRing();
        places();
        numbersOfChildren();
        theTape();
        namesAndNumbers();
        namesInPlaces();
        faults();
        turnsAsked();
        phasesAndTuned();
        seats();
        photosAndSlips();
        rowsAndReader();
        actsAndHost();
        promises1To5();
        promises6To10();
        promises11To15();
        promises16To19();
        promises20To25();
        promises26To32();
        promises33To36();
        promises37To40();
        promises41To43();
        promise44();
        promises45To48();
        promises49To51();
        for (int n = 1; n <= 51; n++) {
            if (!isSpokenOf[n]) {
                wrong++;
                System.out.println("no sentence of promise " + n + " has a test");
            }
        }
        System.out.println(wrong == 0 ? sentences + " sentences hold" : wrong + " answers are not as due");
        if (wrong != 0) {
            System.exit(1);
        }
    }
}
