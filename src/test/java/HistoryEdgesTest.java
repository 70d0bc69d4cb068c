import java.util.List;
import java.util.function.Supplier;
import java.util.function.ToIntFunction;

/** The sentences of undo(), save() and restore(), and which calls are changes. */
public final class HistoryEdgesTest {
    private static final int NOT_POSSIBLE = -5, NONE = -6;
    private static final Check CHECK = new Check();

    public static void main(String[] args) {
        changes();
        changesWithoutDifference();
        noChanges();
        everythingIsAsBefore();
        padSlotsAndHistoryStay();
        ring();
        undoneAndGoneOn();
        saveEverything();
        overwrite();
        slotsApart();
        restoreKeeps();
        restoreIsAChange();
        undoneMembersAndItems();
        restoredMembersAndItems();
        restoredSums();
        CHECK.end();
    }

    private static void busy(String what, int answer, ToIntFunction<ProxyVotes> call) {
        CHECK.change(what, answer, Committees::busy, call);
    }

    private static void changes() {
        CHECK.sentence("each method that is a change, and returns no error, records the state before it");
        busy("set", 50, x -> x.set(ProxyVotes.QUORUM, 0));
        busy("member", 4, x -> x.member(1, 0));
        busy("item", 3, x -> x.item(0, 0));
        busy("chair", 0, x -> x.chair(3));
        busy("come", 3, x -> x.come(1));
        busy("go", 1, x -> x.go(0));
        busy("later", 3, x -> x.later(9, 3, 1));
        busy("proxy", 0, x -> x.proxy(1, NONE, NONE));
        busy("tell", 2, x -> x.tell(1, 2, NONE));
        busy("recuse", 0, x -> x.recuse(3, 2, 0));
        CHECK.change("open", 3, Committees::tied, x -> x.open(2));
        busy("vote", 1, x -> x.vote(0, 2));
        busy("close", ProxyVotes.CARRIED, ProxyVotes::close);
        CHECK.change("cast", ProxyVotes.LOST, Committees::tied, x -> x.cast(2));
        busy("pass", 10, x -> x.pass(10));
        busy("carryOut", 3, ProxyVotes::carryOut);
        busy("restore", 0, x -> x.restore(1));
    }

    private static void changesWithoutDifference() {
        CHECK.sentence("(also if nothing is different then)");
        busy("set to the same", 50, x -> x.set(ProxyVotes.QUORUM, 50));
        busy("the same chair", 0, x -> x.chair(0));
        busy("the same holder", 0, x -> x.proxy(1, NONE, 0));
        busy("the same choice", 2, x -> x.tell(1, 2, 2));
        busy("recused again", 1, x -> x.recuse(3, 2, 1));
        busy("recused by the group", 1, x -> x.recuse(1, 1, 0));
        busy("the same vote", 1, x -> x.vote(0, 1));
        CHECK.change("no order carried out", 0, Check.after(() -> Committees.opened(1), x -> x.put(Check.packed("+A"))),
            ProxyVotes::carryOut);
        CHECK.change("what was just saved", 0, Check.after(Committees::busy, x -> x.save(0)), x -> x.restore(0));
        ProxyVotes x = Committees.opened(1);
        int before = x.count(15);
        x.set(ProxyVotes.QUORUM, 50);
        CHECK.due("one more", before + 1, x.count(15));
        x.undo();
        CHECK.due("one less", before, x.count(15));
        CHECK.due("the item is still open", 0, x.count(4));
    }

    private static void noChanges() {
        CHECK.sentence("each method that is a change, and returns no error");
        Supplier<ProxyVotes> few = () -> Committees.plain(2);
        CHECK.due("three changes", 3, few.get().count(15));
        CHECK.due("put", 3, Check.after(few, x -> x.put('c')).get().count(15));
        CHECK.due("wipe", 3, Check.after(few, ProxyVotes::wipe).get().count(15));
        CHECK.due("fault", 3, Check.after(few, ProxyVotes::fault).get().count(15));
        CHECK.due("save", 3, Check.after(few, x -> x.save(0)).get().count(15));
        CHECK.due("carryOut of a fault", 3, Check.after(few, ProxyVotes::carryOut).get().count(15));
        CHECK.due("restore of nothing", 3, Check.after(few, x -> x.restore(0)).get().count(15));
        CHECK.due("an error", 3, Check.after(few, x -> x.come(2)).get().count(15));
        CHECK.due("undo", 2, Check.after(few, ProxyVotes::undo).get().count(15));
        CHECK.sentence("Returns how many changes can be undone then");
        ProxyVotes x = few.get();
        for (int left = 2; left >= 0; left--) {
            CHECK.due("left", left, x.undo());
        }
        CHECK.due("an undo can't be undone", NOT_POSSIBLE, x.undo());
    }

    private static void everythingIsAsBefore() {
        CHECK.sentence("everything except the pad, the slots and the history is as it was before it");
        ProxyVotes x = Committees.busy();
        List<Integer> before = Check.state(x);
        Check.write(x, ";c;-A;-C;m9");
        // Many things at once: +B, m3, +D, close, two go, and the movements of twelve minutes happen.
        CHECK.due("all orders", 7, x.carryOut());
        CHECK.that("much is different", !before.equals(Check.state(x)));
        x.undo();
        CHECK.same("as it was", before, Check.state(x));
        x.pass(10);
        CHECK.due("the movements wait again, and happen", 4 + 2, x.count(3));
    }

    private static void padSlotsAndHistoryStay() {
        CHECK.sentence("everything except the pad, the slots and the history is as it was before it");
        ProxyVotes x = new ProxyVotes();
        x.member(1, 0);
        x.put(Check.packed("m1"));
        x.save(0);
        x.pass(5);
        x.save(1);
        x.undo();
        CHECK.due("the pad is as it is", 2, x.count(14));
        CHECK.due("the slot that was saved before", 0, x.restore(0));
        CHECK.due("the slot that was saved behind the change", 5, x.restore(1));
        x.wipe();
        x.undo();
        CHECK.due("a wiped pad stays wiped", 0, x.count(14));
        ProxyVotes y = new ProxyVotes();
        y.put(Check.packed("m1"));
        y.carryOut();
        y.undo();
        CHECK.due("a pad that was carried out stays empty", 0, y.count(14));
        CHECK.due("the minute is as it was", 0, y.count(0));
    }

    private static void ring() {
        CHECK.sentence("A history of at most 6 states is kept");
        for (int made = 0; made <= 30; made++) {
            for (int undone = 0; undone <= 6; undone++) {
                ProxyVotes x = new ProxyVotes();
                for (int change = 1; change <= made; change++) {
                    x.pass(1);
                }
                int kept = Math.min(made, 6);
                for (int change = 0; change < undone; change++) {
                    int due = change < kept ? kept - change - 1 : NOT_POSSIBLE;
                    CHECK.due(made + " made, " + change + " undone", due, x.undo());
                }
                CHECK.due("the minute", made - Math.min(undone, kept), x.count(0));
            }
        }
    }

    private static void undoneAndGoneOn() {
        CHECK.sentence("when one more is recorded, the oldest one is dropped");
        for (int undone = 1; undone <= 6; undone++) {
            for (int more = 1; more <= 8; more++) {
                ProxyVotes x = new ProxyVotes();
                for (int change = 1; change <= 9; change++) {
                    x.pass(1);
                }
                for (int change = 0; change < undone; change++) {
                    x.undo();
                }
                for (int change = 0; change < more; change++) {
                    x.pass(10);
                }
                int kept = Math.min(6, 6 - undone + more);
                CHECK.due("kept", kept, x.count(15));
                for (int left = kept - 1; left >= 0; left--) {
                    CHECK.due("left", left, x.undo());
                    int tens = Math.max(0, more - (kept - left));
                    int ones = 9 - undone - Math.max(0, kept - left - more);
                    CHECK.due("the minute", ones + 10 * tens, x.count(0));
                }
                CHECK.due("no more", NOT_POSSIBLE, x.undo());
            }
        }
    }

    private static void saveEverything() {
        CHECK.sentence("Saves everything except the pad, the history and the slots in a slot");
        ProxyVotes x = Committees.busy();
        CHECK.due("the minute", 0, x.save(0));
        List<Integer> before = Check.state(x);
        CHECK.due("the history is as it was", 6, x.count(15));
        CHECK.due("the pad is as it was", 8, x.count(14));
        x.wipe();
        x.carryOut();
        x.set(ProxyVotes.LIMIT, 0);
        x.member(9, 3);
        x.item(2, 15);
        x.chair(4);
        x.proxy(1, NONE, 4);
        x.proxy(3, 1, NONE);
        x.tell(1, 2, 0);
        x.recuse(3, 2, 0);
        x.vote(0, 2);
        x.close();
        x.pass(10);
        CHECK.due("the minute then", 0, x.restore(0));
        CHECK.same("everything", before, Check.state(x));
        CHECK.due("the pad is as it was left", 0, x.count(14));
        x.pass(10);
        CHECK.due("the movements, too", 2 + 4, x.count(3));
        CHECK.sentence("Returns the minute");
        ProxyVotes y = Committees.atTheEnd();
        CHECK.due("the last one", 9000, y.save(1));
        y.undo();
        CHECK.due("restored", 9000, y.restore(1));
    }

    private static void overwrite() {
        CHECK.sentence("and overwrites what was saved there");
        ProxyVotes x = new ProxyVotes();
        for (int minute = 1; minute <= 3; minute++) {
            x.pass(1);
            CHECK.due("saved", minute, x.save(1));
        }
        x.pass(1);
        CHECK.sentence("Restores what was saved last in a slot");
        CHECK.due("the last one", 3, x.restore(1));
    }

    private static void slotsApart() {
        CHECK.sentence("slot: 0 or 1");
        ProxyVotes x = new ProxyVotes();
        x.save(0);
        CHECK.due("the other one is empty", NOT_POSSIBLE, x.restore(1));
        x.member(1, 0);
        x.save(1);
        CHECK.due("0", 0, x.restore(0));
        CHECK.due("nobody", 0, x.count(1));
        CHECK.due("1", 0, x.restore(1));
        CHECK.due("somebody", 1, x.count(1));
    }

    private static void restoreKeeps() {
        CHECK.sentence("Restores what was saved last in a slot, which keeps it.");
        ProxyVotes x = Committees.busy();
        x.save(0);
        List<Integer> saved = Check.state(x);
        for (int round = 0; round < 3; round++) {
            x.close();
            x.pass(3);
            x.go(0);
            x.restore(0);
            CHECK.same("round " + round, saved, Check.state(x));
        }
    }

    private static void restoreIsAChange() {
        CHECK.sentence("Restores what was saved last in a slot");
        CHECK.change("an earlier state", 0, Committees::busy, x -> x.restore(0));
        CHECK.change("another one", 0, Committees::busy, x -> x.restore(1));
        ProxyVotes x = new ProxyVotes();
        x.pass(1);
        x.save(0);
        x.pass(1);
        CHECK.due("restored", 1, x.restore(0));
        CHECK.due("three changes", 3, x.count(15));
        CHECK.due("restored again", 1, x.restore(0));
        CHECK.due("four changes", 3, x.undo());
        CHECK.due("undone to the same", 1, x.count(0));
        CHECK.due("undone", 2, x.undo());
        CHECK.due("the minute before", 2, x.count(0));
        CHECK.due("undone", 1, x.undo());
        CHECK.due("undone", 0, x.undo());
        CHECK.due("the slot is still there", 1, x.restore(0));
    }

    private static void undoneMembersAndItems() {
        CHECK.sentence("is as it was before it");
        ProxyVotes x = Committees.plain(2);
        x.member(5, 3);
        x.come(2);
        x.proxy(2, NONE, 0);
        x.undo();
        x.undo();
        x.undo();
        CHECK.due("the member is made anew", 2, x.member(1, 0));
        CHECK.due("absent", 0, x.ofMember(2, 2));
        CHECK.due("without a holder", NONE, x.ofMember(2, 3));
        x.item(0, 0);
        x.proxy(2, 1, 0);
        x.tell(2, 1, 2);
        x.recuse(2, 1, 1);
        x.undo();
        x.undo();
        x.undo();
        x.undo();
        CHECK.due("the item is made anew", 1, x.item(1, 0));
        CHECK.due("without a holder", NONE, x.at(2, 1, 4));
        CHECK.due("without a choice", NONE, x.at(2, 1, 2));
        CHECK.due("nobody is recused", 0, x.at(2, 1, 5));
        ProxyVotes y = new ProxyVotes();
        y.member(1, 0);
        y.undo();
        CHECK.due("no chair", NONE, y.count(5));
        y.member(1, 0);
        CHECK.due("a chair again", 0, y.count(5));
    }

    private static void restoredMembersAndItems() {
        CHECK.sentence("Restores what was saved last in a slot");
        ProxyVotes x = new ProxyVotes();
        x.save(0);
        x.come(x.member(2, 3));
        x.member(1, 0);
        x.chair(1);
        x.item(2, 0);
        x.item(1, 7);
        x.proxy(1, NONE, 0);
        x.proxy(1, 0, 0);
        x.tell(1, 0, 1);
        x.recuse(0, 0, 1);
        x.later(5, 0, 0);
        x.open(1);
        x.vote(0, 1);
        x.close();
        x.open(0);
        x.set(ProxyVotes.QUORUM, 100);
        x.close();
        x.set(ProxyVotes.QUORUM, 0);
        x.open(0);
        x.save(1);
        List<Integer> full = Check.state(x);
        x.restore(0);
        CHECK.same("a new object", Check.state(new ProxyVotes()), Check.state(x));
        ProxyVotes y = new ProxyVotes();
        for (ProxyVotes each : new ProxyVotes[] {x, y}) {
            each.member(1, 0);
            each.member(1, 0);
            each.item(0, 0);
            each.item(0, 0);
        }
        CHECK.same("nothing is left in what is made anew", Check.state(y), Check.state(x));
        x.restore(1);
        CHECK.same("all is back", full, Check.state(x));
    }

    private static void restoredSums() {
        CHECK.sentence("then as they were when it was closed");
        ProxyVotes x = Committees.opened(2);
        x.vote(0, 1);
        x.close();
        x.save(0);
        x.undo();
        x.vote(1, 2);
        x.close();
        x.save(1);
        x.restore(0);
        CHECK.same("the first", Check.row(0, 1, 0, 1, 0, 0), Check.sums(x, 0));
        x.restore(1);
        CHECK.same("the second", Check.row(0, 1, 1, 0, 0, 0), Check.sums(x, 0));
        x.undo();
        CHECK.same("the first again", Check.row(0, 1, 0, 1, 0, 0), Check.sums(x, 0));
    }
}
