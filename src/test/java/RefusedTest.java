import java.util.ArrayList;
import java.util.List;
import java.util.function.Supplier;
import java.util.function.ToLongFunction;

/**
 * "Refused, and nothing changes": each refused call is made in towns of several kinds, and all that can be asked
 * afterwards is answered as by a twin of the town in which the call was not made.
 */
public final class RefusedTest extends Checks {
    public static void main(String[] args) {
        says("Refused, and nothing changes, the first of these: BAD .., STATE .., FULL");
        new Town("a new object", SquareLate::new).stays();
        new Town("a town in between", RefusedTest::between).refuses(betweenRefuses()).stays();
        new Town("a town of twelve deeds", RefusedTest::twelveDeeds).refuses(twelveDeedsRefuse()).stays();
        new Town("a town on its last day", RefusedTest::lastDay).refuses(lastDayRefuses()).stays();
        new Town("a full text", RefusedTest::fullText).refuses(fullTextRefuses()).stays();
        new Town("a text with a FAULT", RefusedTest::faulty).refuses(faultyRefuses()).stays();
        new Town("the dead", RefusedTest::dead).refuses(deadRefuse()).stays();
        says("asking changes nothing");
        new Town("a town in between", RefusedTest::between).isAsked();
        end();
    }

    /** A call, and what refuses it. */
    private record Refused(String name, long refusal, ToLongFunction<SquareLate> call) {
    }

    /** A run of questions. */
    private interface Questions {
        void ask(SquareLate x, List<Long> answers);
    }

    // ---- towns

    private static SquareLate between() {
        SquareLate x = told("p5 0;p4 5;p9 24;p1 25;l3;c2;r0 1;r1 2;r2 0;");
        x.deed(0, 0);
        x.smoke(9, 1);
        x.keep(0);
        x.day();
        x.walk(1, 6);
        x.deed(1, 7);
        x.mark(3, 0);
        x.keep(1);
        x.die(2);
        x.smoke(20, 1);
        write(x, "p 1 7;l 1;");
        return x;
    }

    private static List<Refused> betweenRefuses() {
        return List.of(
            new Refused("walk to where he is", STATE, x -> x.walk(0, 0)),
            new Refused("walk away from away", STATE, x -> x.walk(3, 25)),
            new Refused("smoke where it is", STATE, x -> x.smoke(20, 1)),
            new Refused("smoke where it is not", STATE, x -> x.smoke(0, 0)),
            new Refused("a deed of one away", STATE, x -> x.deed(3, 0)),
            new Refused("blocks of one away", BAD, x -> x.blocks(0, 3)),
            new Refused("blocks by one nowhere", BAD, x -> x.blocks(2, 0)));
    }

    private static SquareLate twelveDeeds() {
        SquareLate x = told("p5 0;p5 1;p5 2;p5 3;p5 4;p5 25;l1;");
        for (int i = 0; i < 12; i++) {
            x.deed(i % 5, i % 8);
        }
        return x;
    }

    private static List<Refused> twelveDeedsRefuse() {
        return List.of(
            new Refused("a thirteenth deed", FULL, x -> x.deed(0, 0)),
            new Refused("a thirteenth deed of one away", STATE, x -> x.deed(5, 0)),
            new Refused("a thirteenth deed, no act, of one away", BAD, x -> x.deed(5, 8)),
            new Refused("image 0", STATE, x -> x.back(0)),
            new Refused("image 1", STATE, x -> x.back(1)));
    }

    private static SquareLate lastDay() {
        SquareLate x = told("p1 0;p2 6;l30;c98;");
        x.deed(1, 3);
        pass(x, 99);
        x.smoke(12, 1);
        return x;
    }

    private static List<Refused> lastDayRefuses() {
        return List.of(
            new Refused("day", STATE, SquareLate::day));
    }

    private static SquareLate fullText() {
        SquareLate x = told("p1 0;");
        write(x, "p 1 0;p 9 9;l 7;" + " ".repeat(182) + "p!");
        return x;
    }

    private static List<Refused> fullTextRefuses() {
        return List.of(
            new Refused("a byte more", FULL, x -> x.type(' ')),
            new Refused("a byte more that is none", BAD, x -> x.type(256)),
            new Refused("a fault", -209, SquareLate::square),
            new Refused("undo", STATE, SquareLate::undo));
    }

    private static SquareLate faulty() {
        SquareLate x = between();
        write(x, "c0;c1;r7 6;r6 7;q");
        return x;
    }

    private static List<Refused> faultyRefuses() {
        return List.of(
            new Refused("a fault", -36, SquareLate::square));
    }

    private static SquareLate dead() {
        SquareLate x = told("p1 0;p2 24;l1;");
        x.deed(0, 5);
        x.day();
        x.die(0);
        x.die(1);
        x.keep(0);
        return x;
    }

    private static List<Refused> deadRefuse() {
        return List.of(
            new Refused("die", STATE, x -> x.die(0)),
            new Refused("walk", STATE, x -> x.walk(1, 24)),
            new Refused("walk away", STATE, x -> x.walk(1, 25)),
            new Refused("walk nowhere", BAD, x -> x.walk(1, 26)),
            new Refused("deed", STATE, x -> x.deed(0, 5)),
            new Refused("deed, no act", BAD, x -> x.deed(0, 8)),
            new Refused("image 1", STATE, x -> x.back(1)),
            new Refused("blocks", BAD, x -> x.blocks(0, 1)));
    }

    // ---- what a town is asked, each run within its 512 calls

    private static void people(SquareLate x, List<Long> answers) {
        for (int p = 0; p < 6; p++) {
            for (int what = 0; what < 3; what++) {
                answers.add((long) x.person(p, what));
            }
        }
        for (int what = 0; what < 6; what++) {
            answers.add((long) x.now(what));
            answers.add((long) x.count(what));
        }
        answers.add(x.trace());
    }

    private static void deeds(SquareLate x, List<Long> answers) {
        for (int i = 0; i < 12; i++) {
            for (int what = 0; what < 5; what++) {
                answers.add((long) x.done(i, what));
            }
            answers.add((long) x.counts(i));
            answers.add((long) x.mark(i % 6, i));
        }
        answers.add(x.trace());
    }

    private static void claims(SquareLate x, List<Long> answers) {
        for (int act = 0; act < 8; act++) {
            for (int day : new int[] {0, 1, 2, 3, 4, 5, 12, 13, 30, 31, 129, 200}) {
                answers.add((long) x.holder(act, day));
            }
        }
        answers.add((long) x.round());
        for (int n = 1; n <= 30; n++) {
            answers.add((long) x.nearer(n, 3));
        }
    }

    private static void daysGoneBy(SquareLate x, List<Long> answers) {
        for (int day = 0; day <= 130; day++) {
            answers.add((long) x.votes(day));
        }
        for (int some = 0; some < 16; some++) {
            answers.add((long) x.together(some));
        }
    }

    private static void sights(SquareLate x, List<Long> answers) {
        for (int p = 0; p < 6; p++) {
            answers.add((long) x.hides(p));
            answers.add((long) x.hide(1 << p, 0, 1));
            for (int q = 0; q < 6; q++) {
                answers.add((long) x.blocks(p, q));
            }
        }
        for (int c = 0; c < 25; c++) {
            answers.add((long) x.cell(c, 0));
            answers.add((long) x.cell(c, 1));
        }
    }

    private static void past(SquareLate x, List<Long> answers) {
        for (int i = 0; i < 11; i++) {
            answers.add((long) x.undo());
            for (int what = 0; what < 4; what++) {
                answers.add((long) x.now(what));
                answers.add((long) x.person(what, 1));
            }
            answers.add((long) x.count(3));
        }
    }

    private static void image(SquareLate x, int image, List<Long> answers) {
        answers.add((long) x.back(image));
        people(x, answers);
        past(x, answers);
    }

    private static void text(SquareLate x, List<Long> answers) {
        answers.add((long) x.square());
        people(x, answers);
    }

    private static void textGoesOn(SquareLate x, List<Long> answers) {
        answers.add((long) x.type(';'));
        answers.add((long) x.square());
        people(x, answers);
        answers.add((long) x.clear());
    }

    private static List<Questions> allQuestions() {
        return List.of(
            RefusedTest::people,
            RefusedTest::deeds,
            RefusedTest::claims,
            RefusedTest::daysGoneBy,
            RefusedTest::sights,
            RefusedTest::past,
            (x, answers) -> image(x, 0, answers),
            (x, answers) -> image(x, 1, answers),
            RefusedTest::text,
            RefusedTest::textGoesOn);
    }

    // ---- what is BAD in every town

    /** Calls with a number that is not as told, or a thing that there is not. */
    private static final class Bad {
        private final List<Refused> all = new ArrayList<>();
        private final int people;
        private final int deeds;
        private final int day;

        Bad(SquareLate town) {
            people = town.count(0);
            deeds = town.count(3);
            day = town.now(0);
        }

        List<Refused> calls() {
            ofThings();
            ofWhat();
            ofBits();
            ofNumbers();
            return all;
        }

        private void add(String name, ToLongFunction<SquareLate> call) {
            all.add(new Refused(name, BAD, call));
        }

        private void ofThings() {
            for (int p : new int[] {Integer.MIN_VALUE, -1, people, Integer.MAX_VALUE}) {
                add("person " + p, x -> x.person(p, 0));
                add("walk of " + p, x -> x.walk(p, 12));
                add("die of " + p, x -> x.die(p));
                add("deed of " + p, x -> x.deed(p, 0));
                add("blocks by " + p, x -> x.blocks(p, 0));
                add("blocks of " + p, x -> x.blocks(0, p));
                add("hides of " + p, x -> x.hides(p));
                add("days of " + p, x -> x.days(p, 0));
            }
            add("blocks of himself", x -> x.blocks(0, 0));
            for (int c : new int[] {Integer.MIN_VALUE, -1, 25, 26, Integer.MAX_VALUE}) {
                add("cell " + c, x -> x.cell(c, 0));
                add("smoke on " + c, x -> x.smoke(c, 1));
                add("smoke from " + c, x -> x.smoke(c, 0));
            }
            for (int i : new int[] {Integer.MIN_VALUE, -1, deeds, Integer.MAX_VALUE}) {
                add("done " + i, x -> x.done(i, 0));
                add("counts " + i, x -> x.counts(i));
                all.add(new Refused("mark of " + i, NO, x -> x.mark(0, i)));
            }
            for (int n : new int[] {Integer.MIN_VALUE, -1, 2, Integer.MAX_VALUE}) {
                add("keep " + n, x -> x.keep(n));
                add("back " + n, x -> x.back(n));
            }
        }

        private void ofWhat() {
            for (int far : new int[] {Integer.MIN_VALUE, -1, 26, 256, Integer.MAX_VALUE}) {
                add("person, what " + far, x -> x.person(0, far));
                add("cell, what " + far, x -> x.cell(0, far));
                add("now, what " + far, x -> x.now(far));
                add("walk to " + far, x -> x.walk(0, far));
                add("smoke is " + far, x -> x.smoke(7, far));
                add("deed, act " + far, x -> x.deed(0, far));
                add("done, what " + far, x -> x.done(0, far));
                add("hide, what " + far, x -> x.hide(0, 0, far));
                add("days, what " + far, x -> x.days(0, far));
                add("count, what " + far, x -> x.count(far));
                all.add(new Refused("mark of kind " + far, NO, x -> x.mark(far, 0)));
            }
            for (int far : new int[] {Integer.MIN_VALUE, -1, 256, Integer.MAX_VALUE}) {
                add("type " + far, x -> x.type(far));
            }
        }

        private void ofBits() {
            for (int bits : new int[] {Integer.MIN_VALUE, -1, 1 << people, 1 << 30, Integer.MAX_VALUE}) {
                add("hide " + bits, x -> x.hide(bits, 0, 0));
                add("hide, others " + bits, x -> x.hide(0, bits, 0));
                add("together " + bits, x -> x.together(bits));
            }
            add("hide, in both", x -> x.hide(1, 1, 0));
        }

        private void ofNumbers() {
            for (int far : new int[] {Integer.MIN_VALUE, -1, 201, Integer.MAX_VALUE}) {
                add("holder on " + far, x -> x.holder(0, far));
                add("holder of " + far, x -> x.holder(far, 0));
                add("votes on " + far, x -> x.votes(far));
                add("nearer on " + far, x -> x.nearer(1, far));
                add("nearer by " + far, x -> x.nearer(far, 0));
                add("odds of x " + far, x -> x.odds(far, 0, 0));
                add("odds of k " + far, x -> x.odds(0, far, 0));
                add("odds, what " + far, x -> x.odds(0, 0, far));
                add("often of x " + far, x -> x.often(far, 0));
                add("often of y " + far, x -> x.often(0, far));
                add("stood, height " + far, x -> x.stood(0, far));
            }
            for (int far : new int[] {Integer.MIN_VALUE, -1, day, day + 1, Integer.MAX_VALUE}) {
                add("stood on " + far, x -> x.stood(far, 1));
            }
        }
    }

    /** A town that can be made again and again, with the calls that it refuses. */
    private static final class Town {
        private final String name;
        private final Supplier<SquareLate> make;
        private final List<Refused> refused;
        private final List<Questions> questions = allQuestions();
        private final List<List<Long>> twin = new ArrayList<>();

        Town(String name, Supplier<SquareLate> make) {
            this.name = name;
            this.make = make;
            this.refused = new Bad(make.get()).calls();
            for (Questions each : questions) {
                twin.add(answers(each, make.get()));
            }
        }

        Town refuses(List<Refused> more) {
            refused.addAll(more);
            return this;
        }

        void stays() {
            for (Refused each : refused) {
                for (int i = 0; i < questions.size(); i++) {
                    SquareLate x = make.get();
                    due(name + ": " + each.name(), each.call().applyAsLong(x), each.refusal());
                    same(each.name(), i, x);
                }
            }
        }

        /** Runs of questions without mark(), which alone of the asking calls changes something: THE TRACE. */
        void isAsked() {
            List<Questions> asking = List.of(RefusedTest::people, RefusedTest::claims, RefusedTest::sights);
            for (Questions each : asking) {
                for (int i = 0; i < questions.size(); i++) {
                    SquareLate x = make.get();
                    each.ask(x, new ArrayList<>());
                    same("asked", i, x);
                }
            }
        }

        private void same(String call, int which, SquareLate x) {
            boolean same = answers(questions.get(which), x).equals(twin.get(which));
            due(name + ": behind " + call + ", question " + which + " is answered as ahead of it", same ? 1 : 0, 1);
        }

        private static List<Long> answers(Questions questions, SquareLate x) {
            List<Long> answers = new ArrayList<>();
            questions.ask(x, answers);
            return answers;
        }
    }
}
