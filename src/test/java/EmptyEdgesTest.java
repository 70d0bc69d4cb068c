import java.util.function.Supplier;
import java.util.function.ToIntFunction;

/** What is empty: no members, no items, nobody present, nothing OPEN or TIED, no text, no history, no slot. */
public final class EmptyEdgesTest {
    private static final int NO_SUCH = -1, BAD_VALUE = -2, BAD_TEXT = -3, NOT_POSSIBLE = -5, NONE = -6;
    private static final Check CHECK = new Check();

    public static void main(String[] args) {
        newObject();
        noMembers();
        itemsWithoutMembers();
        noItems();
        nobodyPresent();
        nothingOpen();
        nothingTied();
        emptyPad();
        nothingToUndo();
        nothingSaved();
        noMovements();
        CHECK.end();
    }

    private static void newObject() {
        CHECK.sentence("Creates a committee without members and items.");
        int[] due = {0, 0, 0, 0, NONE, NONE, NONE, 0, 0, 0, 0, 0, 0, 0, 0, 0, 50, 34, 240, 2, 1, 1};
        for (int what = 0; what < due.length; what++) {
            CHECK.due("count(" + what + ")", due[what], new ProxyVotes().count(what));
        }
    }

    private static ProxyVotes item() {
        ProxyVotes x = new ProxyVotes();
        x.item(0, 0);
        return x;
    }

    private static void none(String what, Supplier<ProxyVotes> made, ToIntFunction<ProxyVotes> call) {
        CHECK.refused(what, NO_SUCH, made, call);
    }

    private static void noMembers() {
        CHECK.sentence("NO_SUCH if there is no such member");
        Supplier<ProxyVotes> nobody = EmptyEdgesTest::item;
        none("chair", nobody, x -> x.chair(0));
        none("come", nobody, x -> x.come(0));
        none("go", nobody, x -> x.go(0));
        none("later", nobody, x -> x.later(1, 0, 1));
        none("proxy", nobody, x -> x.proxy(0, 0, NONE));
        none("proxy for all", nobody, x -> x.proxy(0, NONE, NONE));
        none("tell", nobody, x -> x.tell(0, 0, 1));
        none("recuse", nobody, x -> x.recuse(0, 0, 1));
        none("vote", Check.after(nobody, x -> x.open(0)), x -> x.vote(0, 1));
        none("ofMember", nobody, x -> x.ofMember(0, 0));
        none("at", nobody, x -> x.at(0, 0, 0));
        none("power", nobody, x -> x.power(0));
        none("bestHolder", nobody, x -> x.bestHolder(0, 0));
        CHECK.sentence("5 the chair (NONE without members)");
        CHECK.due("without members", NONE, item().count(5));
        ProxyVotes x = item();
        x.member(1, 0);
        CHECK.due("the first one", 0, x.count(5));
        x.undo();
        CHECK.due("without members again", NONE, x.count(5));
        CHECK.sentence("6 the chair of the moment (NONE if nobody is present)");
        CHECK.due("without members", NONE, item().count(6));
    }

    private static void itemsWithoutMembers() {
        CHECK.sentence("is at least the weight of all members times QUORUM");
        CHECK.due("0 of 0", 1, item().ofItem(0, 11));
        CHECK.due("0 of 0 at once", 0, item().quorumAt(0));
        CHECK.change("0 are there", 0, EmptyEdgesTest::item, x -> x.open(0));
        int[] states = {ProxyVotes.TIED, ProxyVotes.LOST, ProxyVotes.LOST};
        for (int kind = 0; kind < states.length; kind++) {
            ProxyVotes x = new ProxyVotes();
            x.item(kind, 15);
            CHECK.sentence("An item of kind 0 is CARRIED if FOR is more than AGAINST, TIED if they are equal");
            CHECK.due("kind " + kind + " would be", states[kind], x.wouldBe(0));
            CHECK.same("six sums of nobody", Check.row(0, 0, 0, 0, 0, 0), Check.sums(x, 0));
            CHECK.sentence("Tells which members who could vote for an item now");
            CHECK.due("nobody", 0, x.decisive(0));
            CHECK.sentence("NONE if there is no such set");
            CHECK.due("of nobody", NONE, x.needed(0, 0));
            CHECK.due("of nobody", NONE, x.needed(0, 1));
            x.set(ProxyVotes.QUORUM, 100);
            x.open(0);
            CHECK.sentence("otherwise it is as it was counted");
            CHECK.due("kind " + kind, states[kind], x.close());
            CHECK.sentence("NOT_POSSIBLE if no item is TIED, nobody is present");
            CHECK.due("without members", NOT_POSSIBLE, x.cast(1));
        }
    }

    private static ProxyVotes member() {
        ProxyVotes x = new ProxyVotes();
        x.member(1, 0);
        x.come(0);
        return x;
    }

    private static void noItems() {
        CHECK.sentence("NO_SUCH if there is no such item");
        Supplier<ProxyVotes> nothing = EmptyEdgesTest::member;
        none("proxy", nothing, x -> x.proxy(0, 0, NONE));
        none("tell", nothing, x -> x.tell(0, 0, 1));
        none("recuse", nothing, x -> x.recuse(0, 0, 1));
        none("open", nothing, x -> x.open(0));
        none("ofItem", nothing, x -> x.ofItem(0, 0));
        none("at", nothing, x -> x.at(0, 0, 0));
        none("wouldBe", nothing, x -> x.wouldBe(0));
        none("decisive", nothing, x -> x.decisive(0));
        none("needed", nothing, x -> x.needed(0, 0));
        none("quorumAt", nothing, x -> x.quorumAt(0));
        none("bestHolder", nothing, x -> x.bestHolder(0, 0));
        CHECK.sentence("NOT_POSSIBLE if no item is OPEN");
        CHECK.refused("vote", NOT_POSSIBLE, nothing, x -> x.vote(0, 1));
        CHECK.refused("close", NOT_POSSIBLE, nothing, ProxyVotes::close);
        CHECK.sentence("NOT_POSSIBLE if no item is TIED");
        CHECK.refused("cast", NOT_POSSIBLE, nothing, x -> x.cast(1));
        CHECK.sentence("8 to 12 the items in the states 0 to 4");
        for (int state = 0; state <= 4; state++) {
            CHECK.due("state " + state, 0, member().count(8 + state));
        }
        CHECK.sentence("3 the holder for all items (NONE if there is none), 4 the votes that were given and stand");
        CHECK.due("a holder", NONE, member().ofMember(0, 3));
        CHECK.due("votes", 0, member().ofMember(0, 4));
        CHECK.due("ties", 0, member().ofMember(0, 5));
        CHECK.sentence("Names a holder.");
        ProxyVotes x = member();
        x.member(1, 0);
        CHECK.due("for all items, of which there are none", NONE, x.proxy(1, NONE, 0));
        CHECK.due("it is named", 0, x.ofMember(1, 3));
    }

    private static ProxyVotes empty() {
        return Committees.plain(2);
    }

    private static void nobodyPresent() {
        CHECK.sentence("The chair of the moment is the chair if present, otherwise the present member with the lowest");
        CHECK.due("nobody", NONE, empty().count(6));
        CHECK.due("but there is a chair", 0, empty().count(5));
        CHECK.due("the set of those present", 0, empty().count(3));
        CHECK.sentence("NOT_POSSIBLE if it is not WAITING, another one is OPEN, or the quorum is not there for it");
        CHECK.refused("nobody is there", NOT_POSSIBLE, EmptyEdgesTest::empty, x -> x.open(0));
        ProxyVotes x = empty();
        x.set(ProxyVotes.QUORUM, 0);
        CHECK.due("no quorum is asked", 0, x.open(0));
        CHECK.due("nobody votes", NOT_POSSIBLE, x.vote(0, 1));
        CHECK.due("nobody would be 0 to 0", ProxyVotes.TIED, x.wouldBe(0));
        CHECK.due("nobody is decisive", 0, x.decisive(0));
        CHECK.due("nobody is needed", NONE, x.needed(0, 1));
        CHECK.due("nobody can be named", NONE, x.bestHolder(0, 0));
        CHECK.same("nobody is heard", Check.row(0, 0, 0, 0, 2, 0), Check.sums(x, 0));
        CHECK.due("tied", ProxyVotes.TIED, x.close());
        CHECK.sentence("NOT_POSSIBLE if no item is TIED, nobody is present");
        CHECK.due("nobody breaks it", NOT_POSSIBLE, x.cast(1));
        x.come(1);
        CHECK.due("one does", ProxyVotes.CARRIED, x.cast(1));
        CHECK.sentence("Returns how many are present then");
        CHECK.due("none", 0, x.go(1));
        CHECK.due("one", 1, x.come(0));
    }

    private static void nothingOpen() {
        CHECK.sentence("NOT_POSSIBLE if no item is OPEN");
        CHECK.refused("vote", NOT_POSSIBLE, Committees::tied, x -> x.vote(0, 1));
        CHECK.refused("close", NOT_POSSIBLE, Committees::tied, ProxyVotes::close);
        Supplier<ProxyVotes> closed = Check.after(() -> Committees.opened(2), ProxyVotes::close);
        CHECK.refused("vote when it is closed", NOT_POSSIBLE, closed, x -> x.vote(0, 1));
        CHECK.refused("close when it is closed", NOT_POSSIBLE, closed, ProxyVotes::close);
        CHECK.sentence("4 the item that is OPEN (NONE)");
        CHECK.due("none", NONE, Committees.tied().count(4));
        CHECK.due("the first", 0, Committees.opened(1).count(4));
        CHECK.due("none any more", NONE, closed.get().count(4));
    }

    private static void nothingTied() {
        CHECK.sentence("NOT_POSSIBLE if no item is TIED");
        Supplier<ProxyVotes> waiting = Check.after(EmptyEdgesTest::empty, x -> x.come(0));
        CHECK.refused("one is WAITING", NOT_POSSIBLE, waiting, x -> x.cast(1));
        CHECK.refused("one is OPEN", NOT_POSSIBLE, () -> Committees.opened(2), x -> x.cast(1));
        Supplier<ProxyVotes> carried = Check.after(Committees::tied, x -> x.cast(1));
        Supplier<ProxyVotes> lost = Check.after(Committees::tied, x -> x.cast(2));
        CHECK.refused("it is CARRIED by then", NOT_POSSIBLE, carried, x -> x.cast(1));
        CHECK.refused("it is LOST by then", NOT_POSSIBLE, lost, x -> x.cast(1));
    }

    private static void emptyPad() {
        CHECK.sentence(
            "if there is none and the text ends too early (also if it is empty), it is the length of the text");
        CHECK.asks("fault", 0, Committees::tied, ProxyVotes::fault);
        CHECK.asks("fault", 0, Check.after(Committees::busy, ProxyVotes::wipe), ProxyVotes::fault);
        CHECK.sentence("Empties the pad, and returns the length that it had.");
        CHECK.asks("an empty one", 0, Committees::tied, ProxyVotes::wipe);
        CHECK.due("one of eight", 8, Committees.busy().wipe());
        CHECK.due("a full one", 80, Committees.full().wipe());
        Supplier<ProxyVotes> afterwards = Check.after(Committees::busy, ProxyVotes::wipe);
        CHECK.same("is no change", Check.state(Committees.busy()), Check.state(afterwards.get()));
        CHECK.due("is no change", 5, wiped().count(15));
        CHECK.due("is empty", 0, wiped().count(14));
        CHECK.due("is empty", 0, wiped().wipe());
        CHECK.sentence("BAD_TEXT if the pad has a fault (then it stays)");
        CHECK.refused("an empty one", BAD_TEXT, Committees::tied, ProxyVotes::carryOut);
        CHECK.refused("one that was wiped", BAD_TEXT, EmptyEdgesTest::wiped, ProxyVotes::carryOut);
        CHECK.refused("one that was carried out", BAD_TEXT, Check.after(Committees::busy, ProxyVotes::carryOut),
            ProxyVotes::carryOut);
        CHECK.sentence("BAD_VALUE if there is no character");
        CHECK.refused("none", BAD_VALUE, EmptyEdgesTest::wiped, x -> x.put(0));
    }

    private static ProxyVotes wiped() {
        ProxyVotes x = Committees.plain(2);
        x.come(0);
        x.come(1);
        x.put(Check.packed("m1;m2"));
        x.wipe();
        return x;
    }

    private static void nothingToUndo() {
        CHECK.sentence("NOT_POSSIBLE if there is none");
        CHECK.refused("a new object", NOT_POSSIBLE, ProxyVotes::new, ProxyVotes::undo);
        CHECK.refused("everything is undone", NOT_POSSIBLE, () -> {
            ProxyVotes x = Committees.busy();
            for (int undone = 0; undone < 6; undone++) {
                x.undo();
            }
            return x;
        }, ProxyVotes::undo);
        CHECK.refused("there were only errors", NOT_POSSIBLE, Check.after(ProxyVotes::new, x -> x.come(0)),
            ProxyVotes::undo);
        ProxyVotes x = new ProxyVotes();
        x.member(1, 0);
        CHECK.due("one", 0, x.undo());
        CHECK.due("none is left", NOT_POSSIBLE, x.undo());
    }

    private static void nothingSaved() {
        CHECK.sentence("NOT_POSSIBLE if nothing was saved in it");
        for (int number = 0; number < 2; number++) {
            int slot = number;
            CHECK.refused("a new object", NOT_POSSIBLE, ProxyVotes::new, x -> x.restore(slot));
            CHECK.refused("the other one", NOT_POSSIBLE, Check.after(Committees::tied, x -> x.save(1 - slot)),
                x -> x.restore(slot));
            CHECK.change("a new object, saved", 0, Check.after(ProxyVotes::new, x -> x.save(slot)),
                x -> x.restore(slot));
            CHECK.refused("none that could be saved in", NOT_POSSIBLE, Check.after(Committees::tied, x -> x.save(2)),
                x -> x.restore(slot));
        }
    }

    private static void noMovements() {
        CHECK.sentence("13 movements that wait");
        CHECK.due("none", 0, Committees.plain(2).count(13));
        CHECK.sentence("NONE if it is not so until all movements have happened, and the minute LATE has come");
        CHECK.asks("no movements, LATE is of no use", NONE, () -> Committees.plain(2), x -> x.quorumAt(0));
        ProxyVotes x = Committees.plain(2);
        x.pass(600);
        CHECK.due("LATE is over", NONE, x.quorumAt(0));
    }
}
