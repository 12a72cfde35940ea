/** The document's part ==== 2.: a day's passing, draws, acts and the log, sentence by sentence. */
public final class DayTest extends Check {
    private static final String KNOWER = "citizen fear 0 does 66 knows 0";
    private static final int SOME = 12345678;

    private static void habits() {
        says("A DAY more: (a) each CITIZEN ALIVE and free, by numbers, is about to do the MATTER that is next in the HABIT");
        EarCode x = make("never 1", "citizen fear 0 does 22 11;citizen fear 0 does 11 22;" + KNOWER);
        is("1's first is forbidden, 0's is not", x.days(1), 1);
        is("who", x.log(0, 1), 1);
        is("0's next is forbidden", x.days(1), 1);
        is("who then", x.log(0, 1), 0);
        EarCode dead = make("never 1", "citizen fear 0 does 11;citizen fear 0 does 11;" + KNOWER);
        dead.die(0);
        is("the dead do nothing", dead.days(1), 1);
        is("but 1 does", dead.log(0, 1), 1);
        EarCode held = make("never 1", "citizen fear 0 does 11;" + KNOWER);
        is("four days: taken for three of them", held.days(4), 1);
        is("free on the fifth", held.days(1), 1);
        held.release(0);
        is("set free", held.days(1), 1);
        is("day of it", held.log(0, 0), 5);
        // Two draws by fear: 0's is the first, 1's the second.
        int first = draw(SOME);
        int second = draw(drawn(SOME));
        EarCode order = make(null, "citizen fear " + (first + 1) + " does 11;citizen fear " + second + " does 22;seen 0 11;seen 1 22");
        order.seed(SOME);
        order.days(1);
        is("0 keeps, 1 does not", order.count(9), 1);
        is("two draws", order.seed(0), drawn(drawn(SOME)));
        EarCode nobody = new EarCode();
        is("nobody is there", nobody.days(50), 0);
        is("but days pass", nobody.count(4), 50);
        says("(which goes on by one each DAY, also of those who are TAKEN)");
        EarCode ring = make("never 1", "citizen fear 0 does 11 22 33 44;" + KNOWER);
        for (int day = 0; day < 9; day++) {
            is("on day " + day, ring.citizen(0, 6), 9 + 9 * (day % 4));
            ring.days(1);
        }
        is("taken on days 0, 4, 8", ring.count(7), 3);
        EarCode dying = make(null, "citizen fear 0 does 11 22 33");
        dying.die(0);
        dying.days(2);
        is("that of the dead goes on, too", dying.citizen(0, 6), 27);
    }

    private static int keptBy(int fear, int seed) {
        EarCode x = make(null, "citizen fear " + fear + " does 11;seen 0 11");
        x.seed(seed);
        x.days(1);
        is("one draw of fear " + fear, x.seed(0), drawn(seed));
        return x.count(9);
    }

    private static void keeping() {
        says("KEEPS from it, if a CLAUSE that one KNOWS FORBIDS it (IN FORCE then by oneself)");
        EarCode x = make("never 1", "citizen fear 0 does 11 knows 0");
        x.seed(SOME);
        is("not taken", x.days(3), 0);
        is("kept each day", x.count(9), 3);
        is("without a draw", x.seed(SOME), SOME);
        is("without harm", x.count(8), 0);
        EarCode seen = make("never 1", "citizen fear 100 does 11 knows 0;seen 0 11");
        seen.seed(SOME);
        seen.days(1);
        is("without a draw, though one has seen it", seen.seed(0), SOME);
        is("kept once", seen.count(9), 1);
        EarCode some = make("never 1 if place > 3;never 1", "citizen fear 0 does 11 14 knows 0;" + KNOWER + " 1");
        is("the clause that one knows does not hold", some.days(1), 1);
        some.release(0);
        is("it holds", some.days(1), 0);
        EarCode demanded = make("always 1", "citizen fear 0 does 11 knows 0");
        demanded.days(1);
        is("a clause that demands keeps nobody", demanded.count(9), 0);
        says("else, if it is one of those SEEN, and DRAW modulo 100 is below FEAR");
        is("0 below 0", keptBy(0, seedFor(0)), 0);
        is("0 below 1", keptBy(1, seedFor(0)), 1);
        is("1 below 1", keptBy(1, seedFor(1)), 0);
        is("49 below 50", keptBy(50, seedFor(49)), 1);
        is("50 below 50", keptBy(50, seedFor(50)), 0);
        is("98 below 99", keptBy(99, seedFor(98)), 1);
        is("99 below 99", keptBy(99, seedFor(99)), 0);
        is("99 below 100", keptBy(100, seedFor(99)), 1);
        EarCode other = make(null, "citizen fear 100 does 11;citizen fear 100 does 22;seen 0 12;seen 0 21;seen 1 11");
        other.seed(SOME);
        other.days(1);
        is("other matters", other.count(9), 0);
        is("without a draw", other.seed(0), SOME);
        EarCode last = make(null, "citizen fear 100 does 77 37 40;seen 0 77");
        last.days(3);
        is("63 is seen, not 31, nor 32", last.count(9), 1);
        says("else it is done.");
        EarCode done = make("never 1", "citizen fear 100 does 11;" + KNOWER);
        is("fear of what one has not seen", done.days(1), 1);
        EarCode feared = make("never 1", "citizen fear 100 does 11;" + KNOWER + ";seen 0 11");
        is("what is kept from is not done", feared.days(1), 0);
        is("no harm", feared.count(8), 0);
    }

    private static void takings() {
        says("(b) Of all that were done, by numbers of CITIZENS");
        int first = draw(SOME);
        int second = draw(drawn(SOME));
        int watch = Math.min(first, second) + 1;
        EarCode x = make("never 1", "citizen fear 0 does 11;citizen fear 0 does 11;" + KNOWER + ";watch " + watch);
        x.seed(SOME);
        is("one of both", x.days(1), 1);
        is("who", x.log(0, 1), first < second ? 0 : 1);
        is("they differ", first != second, true);
        EarCode y = make("never 1", "citizen fear 0 does 11;citizen fear 100 does 22;" + KNOWER + ";seen 1 22;watch " + (second + 1));
        y.seed(SOME);
        is("behind all of (a): the second draw", y.days(1), 1);
        is("both draws", y.seed(0), drawn(drawn(SOME)));
        says("if a CLAUSE IN FORCE FORBIDS it: HARM of the DEED is more");
        EarCode harm = make("never 1;never 2;never 3 if place<3;always 4", "citizen fear 0 does 11;citizen fear 0 does 22;citizen fear 0 does 32;"
                + "citizen fear 0 does 33;citizen fear 0 does 44;citizen fear 0 does 66 knows 0 2 3;harm 1 99;harm 2 50;harm 3 0;harm 4 7");
        is("two are taken: for 1, and for 3 below place 3", harm.days(1), 2);
        is("99 and 0", harm.count(8), 99);
        harm.die(5);
        is("none in force any more", harm.days(4), 0);
        is("no more harm", harm.count(8), 99);
        EarCode unseen = make("never 1", "citizen fear 0 does 11;" + KNOWER + ";harm 1 98;watch 0");
        unseen.days(2);
        is("also of one not taken", unseen.count(8), 196);
        EarCode plain = make("never 1", "citizen fear 0 does 22;" + KNOWER);
        plain.seed(SOME);
        plain.days(1);
        is("no draw for what nothing forbids", plain.seed(0), SOME);
        says("DRAW modulo 100 below WATCH: TAKEN for TERM DAYS");
        for (int watched = 0; watched <= 100; watched += 25) {
            for (int draw = Math.max(0, watched - 1); draw <= Math.min(99, watched); draw++) {
                EarCode z = make("never 1", "citizen fear 0 does 11;" + KNOWER + ";term 30;watch " + watched);
                z.seed(seedFor(draw));
                is(draw + " below " + watched, z.days(1), draw < watched ? 1 : 0);
                is("for 30 days", z.citizen(0, 3), draw < watched ? 30 : 0);
                is("one draw", z.seed(0), drawn(seedFor(draw)));
            }
        }
    }

    private static void seeing() {
        says("each one who was ALIVE and free ahead of today and whose MATTER of today is at that PLACE, done or not (the one TAKEN, too), has SEEN that MATTER.");
        EarCode x = make("never 1;never 2", "citizen fear 0 does 15;citizen fear 0 does 35;citizen fear 0 does 16;"
                + "citizen fear 0 does 25 knows 1;citizen fear 0 does 37 35 knows 0;citizen fear 0 does 45;citizen fear 0 does 75");
        x.die(6);
        is("0 and 2 are taken", x.days(1), 2);
        is("the one taken", x.seen(0), 1L << 13);
        is("who is there", x.seen(1), 1L << 13);
        is("the other one taken, elsewhere", x.seen(2), 1L << 14);
        is("who is there and keeps from the own matter", x.seen(3), 1L << 13);
        is("whose place of today is another", x.seen(4), 0);
        is("who is there, too", x.seen(5), 1L << 13);
        is("the dead", x.seen(6), 0);
        EarCode both = make("never 1;never 2", "citizen fear 0 does 15;citizen fear 0 does 25;citizen fear 0 does 66 knows 0 1");
        is("two at one place", both.days(1), 2);
        is("0 was taken first, but was free ahead of today", both.seen(0), 1L << 13 | 1L << 21);
        is("1 sees what 0 is taken for, and the own", both.seen(1), 1L << 13 | 1L << 21);
        EarCode held = make("never 1;never 2", "citizen fear 0 does 15;citizen fear 0 does 35 25;citizen fear 0 does 66 knows 0 1");
        is("0 on day 0", held.days(1), 1);
        is("1 on day 1", held.days(1), 1);
        is("0 was held and does not see it", held.seen(0), 1L << 13);
        is("1 has seen both", held.seen(1), 1L << 13 | 1L << 21);
        EarCode kept = make("never 1", "citizen fear 0 does 15;citizen fear 100 does 35;" + KNOWER + ";seen 1 35");
        kept.days(1);
        is("who keeps by fear sees, too", kept.seen(1), 1L << 13 | 1L << 29);
        EarCode unwatched = make("never 1", "citizen fear 0 does 15;citizen fear 0 does 35;" + KNOWER + ";watch 0");
        unwatched.days(9);
        is("nobody is taken: nothing is seen", unwatched.seen(0) | unwatched.seen(1), 0);
        EarCode edge = make("never 0;never 7", "citizen fear 0 does 00;citizen fear 0 does 77;citizen fear 0 does 11 knows 0 1");
        edge.days(1);
        is("matter 0", edge.seen(0), 1);
        is("matter 63", edge.seen(1), 1L << 63);
        says("(c) Who was TAKEN ahead of today is so for a DAY less.");
        EarCode less = make("never 1", "citizen fear 0 does 11;citizen fear 0 does 22 11;" + KNOWER + ";term 2");
        less.days(1);
        is("not today", less.citizen(0, 3), 2);
        less.days(1);
        is("a day less", less.citizen(0, 3), 1);
        is("1 was taken today", less.citizen(1, 3), 2);
        less.days(1);
        is("none left", less.citizen(0, 3), 0);
        is("1 left of 1's", less.citizen(1, 3), 1);
        is("0 is taken on day 3, when 1 is held yet", less.days(1), 1);
        is("0 below it never", less.citizen(1, 3), 0);
        says("DAY is 1 more.");
        EarCode days = new EarCode();
        days.days(1);
        is("one", days.count(4), 1);
        days.days(50);
        is("fifty", days.count(4), 51);
    }

    private static void draws() {
        says("DRAW: SEED is 1103515245 times SEED and 12345, as an int that goes round");
        int[] seeds = {0, 1, -1, 2, 65535, 65536, MAX, MIN, MAX - 1, MIN + 1, 1103515245, -1103515245, 123456789};
        for (int seed : seeds) {
            EarCode x = make("never 1", "citizen fear 0 does 11;" + KNOWER + ";watch 50");
            x.seed(seed);
            x.days(1);
            is("behind " + seed, x.seed(0), drawn(seed));
        }
        is("of 0", drawn(0), 12345);
        is("of 1", drawn(1), 1103527590);
        is("of the greatest", drawn(MAX), 1043980748);
        is("of the least", drawn(MIN), -2147471303);
        says("bits 16 to 30");
        for (int seed = -150; seed < 150; seed++) {
            EarCode x = make("never 1", "citizen fear 0 does 11;" + KNOWER + ";watch " + (draw(seed) + 1));
            x.seed(seed);
            is("below one more than the draw of " + seed, x.days(1), 1);
            EarCode y = make("never 1", "citizen fear 0 does 11;" + KNOWER + ";watch " + draw(seed));
            y.seed(seed);
            is("not below the draw of " + seed, y.days(1), 0);
        }
        says("(SEED 1 at first).");
        is("at first", new EarCode().seed(5), 1);
        EarCode first = make("never 1", "citizen fear 0 does 11;" + KNOWER);
        first.days(1);
        is("drawn from 1", first.seed(0), 1103527590);
    }

    private static void acts() {
        says("ACTS: one is TOLD a CLAUSE");
        EarCode x = make("never 1;never 2", "citizen fear 7 does 11 22;citizen fear 0 does 22;" + KNOWER);
        is("told", x.tell(1, 1), 1);
        is("known", x.citizen(1, 1), 2);
        is("in force by that", x.count(5), 3);
        is("an act", x.count(13), 1);
        says("one dies (is TAKEN no more; the SPOUSE has none then, nor has the dead one)");
        EarCode y = make("never 1", "citizen fear 0 does 11;citizen fear 0 does 33;" + KNOWER + ";wed 1 0");
        y.days(1);
        is("taken", y.count(6), 1);
        y.die(0);
        is("no more", y.count(6), 0);
        is("no days", y.citizen(0, 3), 0);
        is("the spouse has none", y.citizen(1, 4), -1);
        is("nor has the dead one", y.citizen(0, 4), -1);
        is("dead", y.citizen(0, 0), 0);
        y.die(1);
        is("who has none dies, too", y.count(2), 1);
        y.days(5);
        is("no days of the dead go on", y.citizen(0, 3) + y.citizen(1, 3), 0);
        is("nor are they taken", y.count(6), 0);
        says("two are WED: both KNOW what either KNOWS");
        is("wed", x.wed(0, 1), 2);
        is("both", x.citizen(0, 1), 2);
        is("spouses", x.citizen(0, 4) + 10 * x.citizen(1, 4), 1);
        x.tell(0, 0);
        is("what is told later is one's own", x.citizen(1, 1), 2);
        EarCode none = make("never 1", "citizen fear 0 does 11;citizen fear 0 does 11;" + KNOWER);
        is("nothing of nothing", none.wed(1, 0), 0);
        says("a BABY of one (ALIVE): a CITIZEN more with that one's HABIT (from its first MATTER on) and FEAR, who KNOWS nothing, has SEEN nothing");
        EarCode z = make("never 1", "citizen fear 100 does 22 33 44 55 66 77 knows 0;citizen fear 0 does 11;seen 0 22;wed 0 1;harm 1 5");
        z.days(1);
        is("its number", z.baby(0), 2);
        int[] want = {1, 0, 100, 0, -1, 6, 18, 0, 0};
        for (int what = 0; what < 9; what++) {
            is("what " + what, z.citizen(2, what), want[what]);
        }
        for (int k = 0; k < 6; k++) {
            is("matter " + k, z.habit(2, k), 18 + 9 * k);
        }
        is("the parent goes on", z.citizen(0, 6), 27);
        z.days(1);
        is("the baby goes on behind it", z.citizen(2, 6), 27);
        fails("of a dead one", STATE, () -> {
            z.die(1);
            z.baby(1);
        });
        is("a baby of a baby", z.baby(2), 3);
        EarCode small = make(null, "citizen fear 3 does 07");
        is("of one matter", small.baby(0), 1);
        is("it has one, too", small.citizen(1, 5), 1);
        is("that one", small.habit(1, 0), 7);
        is("no second", small.habit(1, 1), -1);
        says("one is set free");
        EarCode f = make("never 1", "citizen fear 0 does 11;" + KNOWER + ";term 30");
        f.days(1);
        is("thirty days yet", f.release(0), 30);
        is("free", f.citizen(0, 3) + f.count(6), 0);
        is("an act", f.count(13), 2);
        says("DAYS.");
        is("an act as one", f.days(50) > 0, true);
        is("three", f.count(13), 3);
    }

    private static void log() {
        says("THE LOG: the latest 60 who were TAKEN");
        EarCode x = make("never 1", repeat("citizen fear 0 does 11;", 9) + KNOWER + ";term 1");
        is("empty", x.count(10), 0);
        is("none", x.log(0, 0), -1);
        // Nine are taken on every second day.
        is("54 in twelve days", x.days(12), 54);
        is("rows", x.count(10), 54);
        is("the oldest", x.log(53, 0), 0);
        is("beyond it", x.log(54, 0), -1);
        for (int c = 0; c < 3; c++) {
            x.die(c);
        }
        is("six more", x.days(1), 6);
        is("sixty", x.count(10), 60);
        is("the oldest yet", x.log(59, 1), 0);
        is("beyond sixty", x.log(60, 1), -1);
        x.days(1);
        for (int c = 3; c < 8; c++) {
            x.die(c);
        }
        is("one more", x.days(1), 1);
        is("sixty yet", x.count(10), 60);
        is("how often", x.count(7), 61);
        is("the latest", x.log(0, 1), 8);
        is("the oldest went", x.log(59, 1), 1);
        is("beyond sixty yet", x.log(60, 1), -1);
        x.days(50);
        is("25 more", x.count(7), 86);
        is("sixty", x.count(10), 60);
        is("the oldest is the 27th, 8 on day 4", x.log(59, 0) * 10 + x.log(59, 1), 48);
        says("DAY, who, the MATTER, the CLAUSE (the least that is IN FORCE and FORBIDS it).");
        EarCode y = make("never 2;never 1 if who<1;never 1;always 2 if feast;never 1;never 1", "citizen fear 0 does 33 17;citizen fear 0 does 33 17;citizen fear 0 does 66 knows 1 3 4 5");
        y.days(1);
        is("two", y.days(1), 2);
        is("day", y.log(1, 0), 1);
        is("who", y.log(1, 1), 0);
        is("matter", y.log(1, 2), 15);
        is("clause", y.log(1, 3), 1);
        is("day", y.log(0, 0), 1);
        is("who", y.log(0, 1), 1);
        is("matter", y.log(0, 2), 15);
        is("clause: 1 does not hold, 2 is not in force", y.log(0, 3), 4);
        EarCode z = make(repeat("never 2;", 11) + "never 7", "citizen fear 0 does 77;citizen fear 0 does 66 knows 11");
        z.days(1);
        is("the last clause", z.log(0, 3), 11);
    }

    public static void main(String[] args) {
        part(" ==== 2. ", " ==== 3.");
        habits();
        keeping();
        takings();
        seeing();
        draws();
        acts();
        log();
        end("days, draws, acts and the log are as the document has them");
    }
}
