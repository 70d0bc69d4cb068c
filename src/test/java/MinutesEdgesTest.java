import java.util.function.Supplier;

/** The sentences of "Minutes", of later(), pass() and quorumAt(), each with its boundary. */
public final class MinutesEdgesTest {
    private static final int NO_SUCH = -1, NOT_POSSIBLE = -5, NONE = -6;
    private static final Check CHECK = new Check();

    public static void main(String[] args) {
        whenAMinuteBegins();
        inTheOrderTold();
        earlierMinutesFirst();
        whetherItWasSoBefore();
        laterByTheMinute();
        minute9000();
        movementsBehindTheEnd();
        movementsAndUndo();
        quorumAtOnce();
        quorumByMovements();
        quorumByLate();
        quorumNever();
        quorumWithinAMinute();
        quorumTurns();
        quorumBehindTheEnd();
        quorumOfWhom();
        CHECK.end();
    }

    private static void whenAMinuteBegins() {
        CHECK.sentence("When a minute begins, its movements happen");
        int[] minutes = {1, 2, 599, 600};
        for (int minute : minutes) {
            ProxyVotes x = Committees.plain(1);
            x.later(minute, 0, 1);
            if (minute > 1) {
                x.pass(minute - 1);
            }
            CHECK.due("one minute before " + minute, 0, x.count(3));
            CHECK.due("it waits before " + minute, 1, x.count(13));
            CHECK.due("the minute", minute, x.pass(1));
            CHECK.due("at " + minute, 1, x.count(3));
            CHECK.due("it does not wait at " + minute, 0, x.count(13));
            ProxyVotes y = Committees.plain(1);
            y.later(minute, 0, 1);
            y.pass(600);
            CHECK.due("on the way of a longer pass", 1, y.count(3));
        }
        ProxyVotes z = Committees.plain(2);
        z.later(3, 0, 1);
        z.later(4, 1, 1);
        z.pass(3);
        CHECK.due("only those of the minutes that have begun", 1, z.count(3));
        CHECK.due("the other one waits", 1, z.count(13));
    }

    private static void inTheOrderTold() {
        CHECK.sentence("in the order in which they were told");
        ProxyVotes x = Committees.plain(3);
        x.come(1);
        x.later(5, 0, 1);
        x.later(5, 1, 0);
        x.later(5, 2, 0);
        x.later(5, 0, 0);
        x.later(5, 1, 1);
        x.later(5, 2, 1);
        x.later(5, 2, 0);
        x.later(5, 2, 1);
        x.pass(5);
        CHECK.due("the last told one of each", 2 + 4, x.count(3));
    }

    private static void earlierMinutesFirst() {
        CHECK.sentence("When a minute begins, its movements happen, in the order in which they were told");
        ProxyVotes x = Committees.plain(2);
        x.later(6, 0, 0);
        x.later(5, 0, 1);
        x.later(5, 1, 0);
        x.later(4, 1, 1);
        x.pass(10);
        CHECK.due("a later minute goes before a later word", 0, x.count(3));
        ProxyVotes y = Committees.plain(2);
        y.later(6, 0, 1);
        y.later(5, 0, 0);
        y.pass(10);
        CHECK.due("a later minute goes before a later word", 1, y.count(3));
    }

    private static void whetherItWasSoBefore() {
        CHECK.sentence("a member who comes is present then, one who goes absent (whether it was so before or not)");
        ProxyVotes x = Committees.plain(2);
        x.come(0);
        x.later(1, 0, 1);
        x.later(1, 1, 0);
        x.pass(1);
        CHECK.due("one came who was there, one went who was not", 1, x.count(3));
        CHECK.due("both have happened", 0, x.count(13));
        x.later(2, 0, 0);
        x.go(0);
        x.later(2, 1, 1);
        x.come(1);
        x.pass(1);
        CHECK.due("each by hand before", 2, x.count(3));
        ProxyVotes y = Committees.opened(2);
        y.vote(0, 1);
        y.later(1, 0, 0);
        y.pass(1);
        CHECK.due("the vote of one who goes stands", ProxyVotes.FOR, y.at(0, 0, 3));
        CHECK.due("the item is still open", 0, y.count(4));
    }

    private static void laterByTheMinute() {
        CHECK.sentence("Returns how many movements wait then");
        ProxyVotes x = Committees.plain(2);
        CHECK.due("one", 1, x.later(1, 0, 1));
        CHECK.due("the same again is two", 2, x.later(1, 0, 1));
        CHECK.due("three", 3, x.later(2, 1, 1));
        x.pass(1);
        CHECK.due("two have happened", 2, x.later(2, 1, 0));
        CHECK.due("absent or present makes no difference", 3, x.later(601, 0, 1));
        CHECK.due("no such member", NO_SUCH, x.later(2, 2, 1));
    }

    private static void minute9000() {
        CHECK.sentence("Returns the minute then");
        ProxyVotes x = Committees.plain(1);
        for (int minute = 600; minute <= 9000; minute += 600) {
            CHECK.due("600 more", minute, x.pass(600));
        }
        CHECK.sentence("NOT_POSSIBLE if it would be above 9000");
        CHECK.due("one more", NOT_POSSIBLE, x.pass(1));
        CHECK.due("600 more", NOT_POSSIBLE, x.pass(600));
        CHECK.due("the minute", 9000, x.count(0));
        x.undo();
        CHECK.due("8400 again", 8400, x.count(0));
        CHECK.due("to 8999", 8999, x.pass(599));
        CHECK.due("to 9001", NOT_POSSIBLE, x.pass(2));
        CHECK.due("to 9000", 9000, x.pass(1));
        CHECK.change("it is a change to come to 9000", 9000, Check.after(Committees::atTheEnd, ProxyVotes::undo),
            y -> y.pass(600));
    }

    private static void movementsBehindTheEnd() {
        CHECK.sentence("minute: the present one plus 1, to the present one plus 600");
        ProxyVotes x = Committees.atTheEnd();
        CHECK.due("9001", 1, x.later(9001, 0, 1));
        CHECK.due("9600", 2, x.later(9600, 0, 1));
        CHECK.due("no pass comes there", NOT_POSSIBLE, x.pass(1));
        CHECK.due("nothing has happened", 0, x.count(3));
        CHECK.due("they wait", 2, x.count(13));
        ProxyVotes y = Check.after(Committees::atTheEnd, ProxyVotes::undo).get();
        y.later(9000, 1, 1);
        y.pass(600);
        CHECK.due("the minute 9000 begins", 2, y.count(3));
    }

    private static void movementsAndUndo() {
        CHECK.sentence("everything except the pad, the slots and the history is as it was before it");
        ProxyVotes x = Committees.plain(2);
        x.later(5, 0, 1);
        x.later(5, 0, 0);
        x.later(5, 1, 1);
        x.save(0);
        x.pass(5);
        CHECK.due("happened", 2, x.count(3));
        x.undo();
        CHECK.due("three wait again", 3, x.count(13));
        CHECK.due("nobody is there again", 0, x.count(3));
        x.undo();
        x.undo();
        CHECK.due("one waits", 1, x.count(13));
        x.pass(5);
        CHECK.due("and happens", 1, x.count(3));
        x.restore(0);
        x.pass(5);
        CHECK.due("those of the slot", 2, x.count(3));
    }

    /** Four members of weight 1; the first so many are present. LATE_QUORUM is as high as QUORUM. */
    private static ProxyVotes four(int present) {
        ProxyVotes x = Committees.plain(4);
        x.set(ProxyVotes.LATE_QUORUM, 50);
        for (int member = 0; member < present; member++) {
            x.come(member);
        }
        return x;
    }

    private static void quorumAtOnce() {
        CHECK.sentence("Finds the first minute, from the present one on, in which the quorum is there for an item");
        CHECK.asks("the present one", 0, () -> four(2), x -> x.quorumAt(0));
        CHECK.asks("a later one", 7, Check.after(() -> four(2), x -> x.pass(7)), x -> x.quorumAt(0));
        CHECK.asks("the last one", 9000, Check.after(Committees::atTheEnd, x -> x.come(0)), x -> x.quorumAt(0));
        CHECK.asks("also if it is not there any more then", 0, Check.after(() -> four(2), x -> x.later(1, 0, 0)),
            x -> x.quorumAt(0));
        CHECK.asks("also if another one is OPEN", 0, Committees::busy, x -> x.quorumAt(2));
        CHECK.asks("also if it is closed", 0, Committees::tied, x -> x.quorumAt(1));
    }

    private static void quorumByMovements() {
        CHECK.sentence("if nothing is done but the movements that wait");
        int[] minutes = {1, 2, 239, 240, 241, 600};
        for (int minute : minutes) {
            CHECK.asks("at " + minute, minute, Check.after(() -> four(1), x -> x.later(minute, 1, 1)),
                x -> x.quorumAt(0));
            CHECK.asks("nobody new at " + minute, NONE, Check.after(() -> four(1), x -> x.later(minute, 0, 1)),
                x -> x.quorumAt(0));
        }
        ProxyVotes x = four(1);
        x.later(9, 2, 1);
        x.later(8, 1, 1);
        CHECK.due("the first of two", 8, x.quorumAt(0));
        x.later(7, 0, 0);
        CHECK.due("one goes before", 9, x.quorumAt(0));
        x.later(9, 0, 0);
        x.later(9, 2, 0);
        CHECK.due("and the other one, too", NONE, x.quorumAt(0));
    }

    private static void quorumByLate() {
        CHECK.sentence("or times LATE_QUORUM from the minute LATE on");
        int[] lates = {1, 2, 240, 599, 600};
        for (int late : lates) {
            ProxyVotes x = four(1);
            x.set(ProxyVotes.LATE, late);
            x.set(ProxyVotes.LATE_QUORUM, 25);
            CHECK.due("LATE " + late, late, x.quorumAt(0));
            x.set(ProxyVotes.LATE_QUORUM, 26);
            CHECK.due("one percent more", NONE, x.quorumAt(0));
            x.set(ProxyVotes.LATE_QUORUM, 25);
            x.later(late, 0, 0);
            CHECK.due("but nobody is there then", NONE, x.quorumAt(0));
            x.later(late, 3, 1);
            CHECK.due("but another one", late, x.quorumAt(0));
        }
        ProxyVotes z = four(1);
        z.set(ProxyVotes.LATE_QUORUM, 25);
        z.set(ProxyVotes.LATE, 0);
        CHECK.due("late from the first minute on", 0, z.quorumAt(0));
        z.set(ProxyVotes.LATE, 240);
        z.pass(239);
        CHECK.due("the next one", 240, z.quorumAt(0));
        z.later(240, 1, 1);
        CHECK.due("late, and a movement", 240, z.quorumAt(0));
        z.pass(1);
        z.go(1);
        CHECK.due("late now", 240, z.quorumAt(0));
        z.pass(1);
        CHECK.due("late before", 241, z.quorumAt(0));
        ProxyVotes w = four(2);
        w.set(ProxyVotes.QUORUM, 75);
        w.set(ProxyVotes.LATE_QUORUM, 75);
        w.later(100, 2, 1);
        w.later(99, 0, 0);
        w.set(ProxyVotes.LATE, 98);
        CHECK.due("a movement behind LATE is not enough", NONE, w.quorumAt(0));
        w.later(101, 0, 1);
        CHECK.due("two movements behind LATE", 101, w.quorumAt(0));
    }

    private static void quorumNever() {
        CHECK.sentence("NONE if it is not so until all movements have happened, and the minute LATE has come");
        CHECK.asks("no movements", NONE, () -> four(1), x -> x.quorumAt(0));
        Supplier<ProxyVotes> late = Check.after(() -> four(1), x -> x.set(ProxyVotes.LATE, 0));
        CHECK.asks("no movements, and late", NONE, late, x -> x.quorumAt(0));
        ProxyVotes x = four(1);
        x.later(300, 0, 0);
        x.later(200, 0, 1);
        CHECK.due("movements before and behind LATE", NONE, x.quorumAt(0));
        x.set(ProxyVotes.LATE_QUORUM, 0);
        CHECK.due("LATE between them", 240, x.quorumAt(0));
        x.set(ProxyVotes.LATE_QUORUM, 1);
        CHECK.due("one is there at LATE", 240, x.quorumAt(0));
        x.later(240, 0, 0);
        CHECK.due("nobody is there at LATE", NONE, x.quorumAt(0));
        x.later(301, 3, 1);
        CHECK.due("behind LATE and all others", 301, x.quorumAt(0));
    }

    private static void quorumWithinAMinute() {
        CHECK.sentence("Finds the first minute");
        ProxyVotes x = four(1);
        x.later(5, 1, 1);
        x.later(5, 1, 0);
        CHECK.due("one who looks in within a minute", NONE, x.quorumAt(0));
        x.later(5, 2, 1);
        CHECK.due("all of the minute", 5, x.quorumAt(0));
    }

    private static void quorumTurns() {
        CHECK.sentence("until all movements have happened, and the minute LATE has come");
        for (int late = 0; late <= 21; late++) {
            ProxyVotes x = four(1);
            x.set(ProxyVotes.LATE, late);
            for (int minute = 1; minute <= 19; minute++) {
                x.later(minute, 0, minute % 2);
            }
            x.later(20, 1, 1);
            CHECK.due("the last of 20", 20, x.quorumAt(0));
            x.set(ProxyVotes.LATE_QUORUM, 25);
            int due = late == 0 ? 0 : late == 20 || late == 21 ? 20 : late + (late + 1) % 2;
            CHECK.due("one is enough from " + late + " on", due, x.quorumAt(0));
            x.set(ProxyVotes.QUORUM, 100);
            x.set(ProxyVotes.LATE_QUORUM, 100);
            CHECK.due("never", NONE, x.quorumAt(0));
        }
        ProxyVotes y = four(1);
        for (int minute = 1; minute <= 20; minute++) {
            y.later(minute, 0, 1);
        }
        y.set(ProxyVotes.LATE_QUORUM, 25);
        y.set(ProxyVotes.LATE, 600);
        CHECK.due("LATE behind 20", 600, y.quorumAt(0));
    }

    private static void quorumBehindTheEnd() {
        CHECK.sentence("Finds the first minute, from the present one on");
        ProxyVotes x = Committees.atTheEnd();
        x.set(ProxyVotes.QUORUM, 100);
        x.set(ProxyVotes.LATE_QUORUM, 100);
        x.come(0);
        CHECK.due("never", NONE, x.quorumAt(0));
        x.later(9001, 1, 1);
        CHECK.due("a movement waits there", 9001, x.quorumAt(0));
    }

    private static void quorumOfWhom() {
        CHECK.sentence("present or have somebody who speaks for them (recused ones who are present, too");
        ProxyVotes x = four(0);
        x.proxy(1, NONE, 0);
        x.later(9, 1, 1);
        x.later(8, 0, 1);
        CHECK.due("one who comes and speaks for another one", 8, x.quorumAt(0));
        x.recuse(1, 0, 1);
        CHECK.due("the other one is recused and absent until then", 9, x.quorumAt(0));
        x.recuse(0, 0, 1);
        CHECK.due("both are recused and present", 9, x.quorumAt(0));
        x.recuse(1, 0, 0);
        CHECK.due("a recused one speaks for nobody", 9, x.quorumAt(0));
        x.recuse(0, 0, 0);
        x.set(ProxyVotes.LIMIT, 0);
        CHECK.due("there is no place", 9, x.quorumAt(0));
        CHECK.due("nothing has changed", 0, x.count(0));
        CHECK.due("nothing has changed", 2, x.count(13));
    }
}
