import java.util.ArrayList;
import java.util.List;
import java.util.function.Consumer;
import java.util.function.Function;
import java.util.function.ToIntFunction;

/**
 * "A call that is refused changes nothing." What an object holds can't all be asked for, so two objects
 * are brought to the same state, one of them with the refused call in addition, and both must answer
 * alike from then on, whatever is done with them.
 */
public final class RefusalTest {
    private record State(String name, Consumer<ScriptLedger> calls) {
    }

    private record Refused(String name, int answer, ToIntFunction<ScriptLedger> call) {
    }

    private record Future(String name, Function<ScriptLedger, List<Integer>> answers) {
    }

    private static final int MOST = Integer.MAX_VALUE;
    private static final int LEAST = Integer.MIN_VALUE;

    private static final Due DUE = new Due();
    private static final List<Future> FUTURES = futures();

    public static void main(String[] args) {
        statesAreAsMeant();
        State fresh = new State("new", x -> { });
        State busy = new State("busy", RefusalTest::busy);
        State atOdds = new State("at odds", RefusalTest::atOdds);
        State full = new State("full", RefusalTest::full);
        for (State state : List.of(fresh, busy, atOdds, full)) {
            for (Refused refused : refusedAlways()) {
                changesNothing(state, refused);
            }
        }
        for (Refused refused : refusedWhenNew()) {
            changesNothing(fresh, refused);
        }
        for (Refused refused : refusedWhenBusy()) {
            changesNothing(busy, refused);
        }
        for (Refused refused : refusedWhenFull()) {
            changesNothing(full, refused);
        }
        definitions();
        submissions();
        DUE.end();
    }

    private static void statesAreAsMeant() {
        ScriptLedger x = new ScriptLedger(250);
        busy(x);
        DUE.same("a busy one's transaction", x.submit(), 0);
        DUE.same("a busy one's draft", Program.define(x, 0x85), 2);
        x = new ScriptLedger(250);
        atOdds(x);
        DUE.same("one's that is at odds", x.submit(), 1);
        DUE.same("the interval and the signers", x.result(3), 1 + 20 + 11);
        DUE.same("its guarantee", x.about(1, 5), 1);
        x = new ScriptLedger(250);
        full(x);
        DUE.same("a full one's transaction", x.submit(), 0);
        DUE.same("a full one's scripts", x.define(), -1);
        DUE.same("a full one's height", x.height(), 40);
    }

    private static void changesNothing(State state, Refused refused) {
        alike(state.name + ": " + refused.name, x -> {
            state.calls.accept(x);
            DUE.same(state.name + ": " + refused.name, refused.call.applyAsInt(x), refused.answer);
        }, state.calls);
    }

    private static void alike(String name, Consumer<ScriptLedger> one, Consumer<ScriptLedger> other) {
        for (Future future : FUTURES) {
            ScriptLedger x = new ScriptLedger(250);
            ScriptLedger y = new ScriptLedger(250);
            one.accept(x);
            other.accept(y);
            DUE.same(name + ", then " + future.name, future.answers.apply(x), future.answers.apply(y));
        }
    }

    private static List<Future> futures() {
        List<Future> futures = new ArrayList<>();
        futures.add(new Future("asked", Seen::of));
        futures.add(new Future("submitted", x -> answers(x.submit(), Seen.of(x))));
        futures.add(new Future("a block on", x -> answers(x.block(), answers(x.submit(), Seen.of(x)))));
        for (int k = 0; k <= 4; k++) {
            int blocks = k;
            futures.add(new Future("rolled back by " + k, x -> answers(x.rollback(blocks), Seen.of(x))));
        }
        futures.add(new Future("defined", x -> answers(x.define(), runs(x))));
        futures.add(new Future("defined with a byte more",
            x -> answers(asInt(x.type(0x85, 1)), answers(x.define(), runs(x)))));
        futures.add(new Future("typed on", RefusalTest::roomInDraft));
        futures.add(new Future("added to", RefusalTest::roomInTransaction));
        return futures;
    }

    private static List<Integer> answers(int first, List<Integer> others) {
        List<Integer> answers = new ArrayList<>(others);
        answers.add(first);
        return answers;
    }

    private static int asInt(boolean answer) {
        return answer ? 1 : 0;
    }

    private static List<Integer> runs(ScriptLedger x) {
        List<Integer> answers = new ArrayList<>();
        for (int script = 0; script < 6; script++) {
            answers.add(x.run(script, 6, 6, 99));
            for (int what = 0; what < 4; what++) {
                answers.add(x.result(what));
            }
        }
        return answers;
    }

    private static List<Integer> roomInDraft(ScriptLedger x) {
        List<Integer> answers = new ArrayList<>();
        for (int i = 0; i < 49; i++) {
            answers.add(asInt(x.type(8, 1)));
        }
        return answers;
    }

    private static List<Integer> roomInTransaction(ScriptLedger x) {
        List<Integer> answers = new ArrayList<>();
        for (int i = 0; i < 4; i++) {
            answers.add(asInt(x.spend(20 + i, 0)));
            answers.add(asInt(x.give(0, 0, 0, 0, 0)));
        }
        answers.add(x.submit());
        return answers;
    }

    /** Three blocks with a transaction in each but one, two scripts, and a run. */
    private static void grown(ScriptLedger x) {
        Program.define(x, Program.script(Program.builtin(Program.EQUAL, Program.variable(2), Program.variable(1))));
        int[] sum = Program.builtin(Program.ADD, Program.builtin(Program.ADD, Program.inContext(1),
            Program.inContext(2)), Program.inContext(4));
        DUE.same("a script that shows the interval and the signers", Program.define(x, Program.script(sum)), 1);
        Deal first = new Deal().input(0, 0).coin(300).gift(1, 0, 400, 0, 0).fee(50).signers(1);
        DUE.same("at 0", first.submit(DUE, x), 0);
        x.block();
        x.block();
        DUE.same("at 2", new Deal().input(2, 0).gift(0, 5, 250, 0, 0).fee(50).signers(1).submit(DUE, x), 0);
        x.block();
        Deal last = new Deal().input(3, 0).gift(3, -2, 180, 0, 0).gift(4, 9, 200, 0, 0).fee(20).signers(2);
        DUE.same("at 3", last.submit(DUE, x), 0);
        DUE.same("a run", x.run(0, 3, 4, 99), 1);
    }

    /** A draft that a byte would make whole, and a transaction that would be accepted but not with other terms. */
    private static void busy(ScriptLedger x) {
        grown(x);
        x.type(0x01010103L, 4);
        Deal deal = new Deal().input(4, 11).input(6, 9).gift(2, -8, 440, 6, 0).mint(1, 6, 6);
        deal.fee(10).within(3, 3).signers(3).budget(18).guarantee(1).make(DUE, x);
    }

    /** A transaction that would lose its guarantee to a script whose value tells its terms. */
    private static void atOdds(ScriptLedger x) {
        grown(x);
        Deal deal = new Deal().input(4, 11).gift(2, -8, 231, 0, 6).mint(2, 6, 6);
        deal.fee(19).within(1, 20).signers(11).budget(99).guarantee(1).make(DUE, x);
    }

    /** Six scripts, a draft of 48 bytes, a transaction of three inputs and three outputs, and one done at height 40. */
    private static void full(ScriptLedger x) {
        fullButForTheDraft(x);
        for (int i = 0; i < 6; i++) {
            x.type(0x0101010101010101L * (i % 2), 8);
        }
    }

    private static void fullButForTheDraft(ScriptLedger x) {
        grown(x);
        for (int script = 2; script < 6; script++) {
            DUE.same("define", Program.define(x, Program.script(Program.integer(script))), script);
        }
        for (int height = 4; height <= 40; height++) {
            x.block();
        }
        DUE.same("at 40", new Deal().input(5, 0).gift(3, -3, 160, 0, 0).fee(20).signers(8).submit(DUE, x), 0);
        Deal deal = new Deal().input(4, 1).input(7, 2).input(1, 3);
        deal.coin(1000).gift(7, 1, 80, 0, 0).gift(3, 2, 30, 0, 0);
        deal.fee(50).within(40, 40).signers(11).make(DUE, x);
    }

    private static Refused no(String name, Function<ScriptLedger, Boolean> call) {
        return new Refused(name, 0, x -> asInt(call.apply(x)));
    }

    private static Refused none(String name, ToIntFunction<ScriptLedger> call) {
        return new Refused(name, -1, call);
    }

    private static List<Refused> refusedAlways() {
        List<Refused> all = new ArrayList<>();
        for (int n : new int[] {0, -1, 9, MOST, LEAST}) {
            all.add(no("type of " + n, x -> x.type(0x85, n)));
        }
        for (int script : new int[] {-1, 6, MOST, LEAST}) {
            all.add(none("run of " + script, x -> x.run(script, 1, 2, 99)));
        }
        for (int budget : new int[] {-1, 100, MOST, LEAST}) {
            all.add(none("run within " + budget, x -> x.run(0, 1, 1, budget)));
        }
        for (int output : new int[] {-1, LEAST}) {
            all.add(no("spend of " + output, x -> x.spend(output, 9)));
            all.add(no("guarantee of " + output, x -> x.guarantee(output)));
        }
        for (int k : new int[] {-1, 5, MOST, LEAST}) {
            all.add(none("rollback by " + k, x -> x.rollback(k)));
        }
        for (int what : new int[] {-1, 4, MOST, LEAST}) {
            all.add(none("result of " + what, x -> x.result(what)));
        }
        for (int asset : new int[] {-1, 3, MOST, LEAST}) {
            all.add(none("total of " + asset, x -> x.total(asset)));
        }
        for (int output : new int[] {-1, 48, MOST, LEAST}) {
            all.add(none("about " + output, x -> x.about(output, 0)));
        }
        for (int what : new int[] {-1, 6, MOST, LEAST}) {
            all.add(none("about, " + what, x -> x.about(0, what)));
        }
        refusedGifts(all);
        refusedMints(all);
        refusedTerms(all);
        return all;
    }

    private static void refusedGifts(List<Refused> all) {
        for (int lock : new int[] {-1, 10, MOST, LEAST}) {
            all.add(no("give with lock " + lock, x -> x.give(lock, 1, 0, 0, 0)));
        }
        for (int amount : new int[] {-1, 1000001, MOST, LEAST}) {
            all.add(no("give of coin " + amount, x -> x.give(0, 1, amount, 0, 0)));
            all.add(no("give of first " + amount, x -> x.give(0, 1, 0, amount, 0)));
            all.add(no("give of second " + amount, x -> x.give(0, 1, 0, 0, amount)));
        }
    }

    private static void refusedMints(List<Refused> all) {
        for (int asset : new int[] {-1, 0, 3, MOST, LEAST}) {
            all.add(no("mint of asset " + asset, x -> x.mint(asset, 7, 8)));
        }
        for (int amount : new int[] {-1000001, 1000001, MOST, LEAST}) {
            all.add(no("mint of 1 by " + amount, x -> x.mint(1, amount, 8)));
            all.add(no("mint of 2 by " + amount, x -> x.mint(2, amount, 8)));
        }
    }

    /** What is good in them differs from all that the states have as their terms. */
    private static void refusedTerms(List<Refused> all) {
        for (int fee : new int[] {-1, 1000001, MOST, LEAST}) {
            all.add(no("terms with fee " + fee, x -> x.terms(fee, 7, 29, 12, 50)));
        }
        for (int signers : new int[] {-1, 16, MOST, LEAST}) {
            all.add(no("terms with signers " + signers, x -> x.terms(60, 7, 29, signers, 50)));
        }
        for (int budget : new int[] {-1, 100, MOST, LEAST}) {
            all.add(no("terms with budget " + budget, x -> x.terms(60, 7, 29, 12, budget)));
        }
    }

    private static List<Refused> refusedWhenNew() {
        return List.of(none("rollback by more than the height", x -> x.rollback(1)),
            none("run of a script that is not defined", x -> x.run(0, 0, 0, 99)),
            none("result before any run", x -> x.result(0)),
            none("about one behind the last", x -> x.about(2, 5)));
    }

    private static List<Refused> refusedWhenBusy() {
        return List.of(none("rollback by more than the height", x -> x.rollback(4)),
            none("run of a script that is not defined", x -> x.run(2, 0, 0, 99)),
            no("spend of what is an input", x -> x.spend(4, 12)),
            no("spend of what is an input of a script", x -> x.spend(6, 12)),
            none("about one behind the last", x -> x.about(7, 5)));
    }

    private static List<Refused> refusedWhenFull() {
        return List.of(no("a 49th byte", x -> x.type(8, 1)),
            no("eight bytes more", x -> x.type(8, 8)),
            no("a fourth input", x -> x.spend(0, 9)),
            no("an input again", x -> x.spend(7, 9)),
            no("a fourth new output", x -> x.give(0, 0, 0, 0, 0)),
            none("a 41st block", x -> x.block()));
    }

    /** The draft is empty after a definition that is refused; all else is as if nothing had been typed. */
    private static void definitions() {
        alike("define of a malformed draft", x -> {
            atOdds(x);
            DUE.same("malformed", Program.define(x, 1, 1, 1, 3, 5, 9), -2);
        }, RefusalTest::atOdds);
        alike("define of an empty draft", x -> {
            atOdds(x);
            DUE.same("empty", x.define(), -2);
        }, RefusalTest::atOdds);
        alike("define of a seventh script", x -> {
            fullButForTheDraft(x);
            DUE.same("a seventh", Program.define(x, Program.script(Program.yes())), -1);
        }, RefusalTest::fullButForTheDraft);
        alike("define of a malformed seventh script", x -> {
            fullButForTheDraft(x);
            DUE.same("a malformed seventh", Program.define(x, 9), -1);
        }, RefusalTest::fullButForTheDraft);
    }

    private static Deal fair() {
        return new Deal().input(4, 11).gift(2, -8, 230, 6, 0).mint(1, 6, 6).fee(20).signers(3).budget(9).guarantee(1);
    }

    /** The transaction is empty after any submission; for the reasons 2 to 9 all else is as if it had not been. */
    private static void submissions() {
        refused(2, new Deal().coin(5).fee(20).signers(3));
        refused(3, fair().input(0, 0));
        refused(3, fair().input(7, 0));
        refused(4, fair().within(4, 40));
        refused(4, fair().within(0, 2));
        refused(5, new Deal().input(4, 11).coin(244).fee(6).signers(1));
        refused(6, fair().fee(21));
        refused(7, fair().signers(2));
        refused(8, new Deal().input(4, 11).input(5, 0).coin(230).gift(9, 0, 180, 0, 0).fee(20).signers(9),
            new Deal().input(8, 0).fee(180).signers(2).guarantee(1));
        refused(9, fair().guarantee(0));
        refused(9, fair().guarantee(6));
        refused(9, fair().guarantee(7));
        refused(9, fair().guarantee(4));
        refused(9, fair().guarantee(5));
    }

    private static void refused(int reason, Deal deal) {
        alike("submit for " + reason, x -> {
            grown(x);
            DUE.same("submit", deal.submit(DUE, x), reason);
        }, RefusalTest::grown);
    }

    private static void refused(int reason, Deal before, Deal deal) {
        alike("submit for " + reason, x -> {
            grown(x);
            DUE.same("submit", before.submit(DUE, x), 0);
            DUE.same("submit", deal.submit(DUE, x), reason);
        }, x -> {
            grown(x);
            DUE.same("submit", before.submit(DUE, x), 0);
        });
    }
}
