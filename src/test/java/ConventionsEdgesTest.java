import java.util.function.Supplier;
import java.util.function.ToIntFunction;

/** The sentences of "CONVENTIONS", for every call: the order of errors, that an error changes nothing, and NONE. */
public final class ConventionsEdgesTest {
    private static final int NO_SUCH = -1, BAD_VALUE = -2, BAD_TEXT = -3, TOO_MANY = -4, NOT_POSSIBLE = -5, NONE = -6;
    private static final Check CHECK = new Check();

    public static void main(String[] args) {
        constants();
        settingUpFails();
        membersFail();
        votesFail();
        whatThereIsFails();
        forecastsFail();
        textsFail();
        historyFails();
        severalErrors();
        noneIsNoError();
        noneOnlyWithoutErrors();
        numbersAndMasks();
        timeAtFirst();
        as512Calls();
        CHECK.end();
    }

    private static void busy(String what, int error, ToIntFunction<ProxyVotes> call) {
        CHECK.refused(what, error, Committees::busy, call);
    }

    private static void tied(String what, int error, ToIntFunction<ProxyVotes> call) {
        CHECK.refused(what, error, Committees::tied, call);
    }

    private static void full(String what, int error, ToIntFunction<ProxyVotes> call) {
        CHECK.refused(what, error, Committees::full, call);
    }

    private static void constants() {
        CHECK.sentence("NO_SUCH (-1), BAD_VALUE (-2), BAD_TEXT (-3), TOO_MANY (-4) and NOT_POSSIBLE (-5)");
        CHECK.due("NO_SUCH", -1, ProxyVotes.NO_SUCH);
        CHECK.due("BAD_VALUE", -2, ProxyVotes.BAD_VALUE);
        CHECK.due("BAD_TEXT", -3, ProxyVotes.BAD_TEXT);
        CHECK.due("TOO_MANY", -4, ProxyVotes.TOO_MANY);
        CHECK.due("NOT_POSSIBLE", -5, ProxyVotes.NOT_POSSIBLE);
        CHECK.sentence("NONE (-6) is not an error");
        CHECK.due("NONE", -6, ProxyVotes.NONE);
        CHECK.sentence("QUORUM = 0, LATE_QUORUM = 1, LATE = 2, LIMIT = 3, CHAIN = 4, CASTING = 5");
        CHECK.numbers("settings", new int[] {0, 1, 2, 3, 4, 5}, new int[] {ProxyVotes.QUORUM, ProxyVotes.LATE_QUORUM,
            ProxyVotes.LATE, ProxyVotes.LIMIT, ProxyVotes.CHAIN, ProxyVotes.CASTING});
        CHECK.sentence("WAITING = 0, OPEN = 1, TIED = 2, CARRIED = 3, LOST = 4");
        CHECK.numbers("states", new int[] {0, 1, 2, 3, 4}, new int[] {ProxyVotes.WAITING, ProxyVotes.OPEN,
            ProxyVotes.TIED, ProxyVotes.CARRIED, ProxyVotes.LOST});
        CHECK.sentence("ABSTAINED = 0, FOR = 1, AGAINST = 2, SILENT = 3, UNHEARD = 4, RECUSED = 5");
        CHECK.numbers("ways", new int[] {0, 1, 2, 3, 4, 5}, new int[] {ProxyVotes.ABSTAINED, ProxyVotes.FOR,
            ProxyVotes.AGAINST, ProxyVotes.SILENT, ProxyVotes.UNHEARD, ProxyVotes.RECUSED});
    }

    private static void settingUpFails() {
        CHECK.sentence("A call that returns an error changes nothing: set, member, item, chair");
        busy("a setting that is none", BAD_VALUE, x -> x.set(6, 0));
        busy("a value that is too high", BAD_VALUE, x -> x.set(ProxyVotes.QUORUM, 101));
        busy("a weight that is too low", BAD_VALUE, x -> x.member(0, 0));
        busy("a group that is too high", BAD_VALUE, x -> x.member(1, 4));
        busy("a kind that is too high", BAD_VALUE, x -> x.item(3, 0));
        busy("groups that are too high", BAD_VALUE, x -> x.item(0, 16));
        busy("no such chair", NO_SUCH, x -> x.chair(4));
        full("a member too many", TOO_MANY, x -> x.member(1, 0));
        full("an item too many", TOO_MANY, x -> x.item(0, 0));
    }

    private static void membersFail() {
        CHECK.sentence("A call that returns an error changes nothing: come, go, later, proxy, tell, recuse");
        busy("nobody comes", NO_SUCH, x -> x.come(4));
        busy("one who is present comes", NOT_POSSIBLE, x -> x.come(0));
        busy("nobody goes", NO_SUCH, x -> x.go(4));
        busy("one who is absent goes", NOT_POSSIBLE, x -> x.go(1));
        busy("nobody moves", NO_SUCH, x -> x.later(1, 4, 1));
        busy("a minute that is too early", BAD_VALUE, x -> x.later(0, 1, 1));
        busy("neither comes nor goes", BAD_VALUE, x -> x.later(1, 1, 2));
        full("a movement too many", TOO_MANY, x -> x.later(1, 0, 1));
        busy("nobody names a holder", NO_SUCH, x -> x.proxy(4, 1, 0));
        busy("a holder for no item", NO_SUCH, x -> x.proxy(3, 3, 0));
        busy("a holder who is nobody", NO_SUCH, x -> x.proxy(3, 1, 4));
        busy("the member as the holder", NO_SUCH, x -> x.proxy(3, 1, 3));
        busy("the member as the holder for all items", NO_SUCH, x -> x.proxy(1, NONE, 1));
        busy("nobody tells a choice", NO_SUCH, x -> x.tell(4, 2, 1));
        busy("a choice for no item", NO_SUCH, x -> x.tell(1, 3, 1));
        busy("a told choice that is too high", BAD_VALUE, x -> x.tell(1, 2, 3));
        busy("a choice for a closed item", NOT_POSSIBLE, x -> x.tell(1, 0, 1));
        busy("nobody is recused", NO_SUCH, x -> x.recuse(4, 2, 1));
        busy("recused for no item", NO_SUCH, x -> x.recuse(1, 3, 1));
        busy("neither recused nor not", BAD_VALUE, x -> x.recuse(1, 2, 2));
        busy("recused for a closed item", NOT_POSSIBLE, x -> x.recuse(1, 0, 1));
    }

    private static void votesFail() {
        CHECK.sentence("A call that returns an error changes nothing: open, vote, close, cast, pass");
        busy("no such item is opened", NO_SUCH, x -> x.open(3));
        busy("the open one is opened", NOT_POSSIBLE, x -> x.open(1));
        busy("another one is open", NOT_POSSIBLE, x -> x.open(2));
        tied("a closed one is opened", NOT_POSSIBLE, x -> x.open(1));
        CHECK.refused("no quorum", NOT_POSSIBLE, () -> Committees.plain(2), x -> x.open(0));
        busy("nobody votes", NO_SUCH, x -> x.vote(4, 1));
        busy("a choice that is too high", BAD_VALUE, x -> x.vote(0, 3));
        busy("an absent one votes", NOT_POSSIBLE, x -> x.vote(3, 1));
        CHECK.refused("a recused one votes", NOT_POSSIBLE, Check.after(Committees::busy, x -> x.come(1)),
            x -> x.vote(1, 1));
        tied("nothing is open", NOT_POSSIBLE, x -> x.vote(0, 1));
        tied("nothing is open", NOT_POSSIBLE, ProxyVotes::close);
        tied("a choice that is none for the chair", BAD_VALUE, x -> x.cast(0));
        busy("nothing is tied", NOT_POSSIBLE, x -> x.cast(1));
        CHECK.refused("nobody is present", NOT_POSSIBLE, Check.after(Committees::tied, ConventionsEdgesTest::allGo),
            x -> x.cast(1));
        CHECK.refused("the chair is recused", NOT_POSSIBLE, ConventionsEdgesTest::recusedChair, x -> x.cast(1));
        busy("too few minutes", BAD_VALUE, x -> x.pass(0));
        busy("too many minutes", BAD_VALUE, x -> x.pass(601));
        CHECK.refused("a minute that is too late", NOT_POSSIBLE, Committees::atTheEnd, x -> x.pass(1));
    }

    private static int allGo(ProxyVotes x) {
        return Math.min(Math.min(x.go(0), x.go(1)), x.go(2));
    }

    private static ProxyVotes recusedChair() {
        ProxyVotes x = Committees.plain(2);
        x.recuse(0, 0, 1);
        x.come(0);
        x.come(1);
        x.open(0);
        x.close();
        return x;
    }

    private static void whatThereIsFails() {
        CHECK.sentence("A call that returns an error changes nothing: ofMember, ofItem, at, count");
        busy("no such member", NO_SUCH, x -> x.ofMember(4, 0));
        busy("no such number of a member", BAD_VALUE, x -> x.ofMember(0, 6));
        busy("no such item", NO_SUCH, x -> x.ofItem(3, 0));
        busy("no such number of an item", BAD_VALUE, x -> x.ofItem(0, 12));
        busy("no such member at an item", NO_SUCH, x -> x.at(4, 0, 0));
        busy("no such item for a member", NO_SUCH, x -> x.at(0, 3, 0));
        busy("no such number of both", BAD_VALUE, x -> x.at(0, 0, 7));
        busy("no such number about all", BAD_VALUE, x -> x.count(22));
    }

    private static void forecastsFail() {
        CHECK.sentence("what if; nothing changes");
        busy("wouldBe of no item", NO_SUCH, x -> x.wouldBe(3));
        busy("wouldBe of a closed one", NOT_POSSIBLE, x -> x.wouldBe(0));
        busy("decisive of no item", NO_SUCH, x -> x.decisive(3));
        busy("decisive of a closed one", NOT_POSSIBLE, x -> x.decisive(0));
        busy("needed of no item", NO_SUCH, x -> x.needed(3, 0));
        busy("needed of a what that is none", BAD_VALUE, x -> x.needed(1, 2));
        busy("needed of a closed one", NOT_POSSIBLE, x -> x.needed(0, 0));
        busy("power of nobody", NO_SUCH, x -> x.power(4));
        busy("quorumAt of no item", NO_SUCH, x -> x.quorumAt(3));
        busy("bestHolder of nobody", NO_SUCH, x -> x.bestHolder(4, 0));
        busy("bestHolder for no item", NO_SUCH, x -> x.bestHolder(1, 3));
        busy("bestHolder of one who is present", NOT_POSSIBLE, x -> x.bestHolder(0, 0));
        busy("bestHolder of a recused one", NOT_POSSIBLE, x -> x.bestHolder(1, 1));
        busy("bestHolder of one who has a holder", NOT_POSSIBLE, x -> x.bestHolder(3, 1));
        // For item 1 are 3 FOR and, behind member 2, none more: 3 * 3 is at least 2 * 3.
        CHECK.asks("wouldBe", ProxyVotes.CARRIED, Committees::busy, x -> x.wouldBe(1));
        CHECK.asks("decisive", 1 + 4, Committees::busy, x -> x.decisive(1));
        CHECK.asks("needed", 0, Committees::busy, x -> x.needed(1, 1));
        CHECK.asks("power", 5, Committees::busy, x -> x.power(2));
        CHECK.asks("quorumAt", 0, Committees::busy, x -> x.quorumAt(2));
        CHECK.asks("quorumAt, which looks ahead", 5, ConventionsEdgesTest::quorumLater, x -> x.quorumAt(0));
        CHECK.asks("bestHolder", 2, Committees::busy, x -> x.bestHolder(3, 0));
        CHECK.asks("bestHolder of one who has a holder for all items", 0, Committees::busy, x -> x.bestHolder(1, 2));
    }

    private static ProxyVotes quorumLater() {
        ProxyVotes x = Committees.plain(2);
        x.later(5, 1, 1);
        x.later(9, 0, 1);
        return x;
    }

    private static void textsFail() {
        CHECK.sentence("A call that returns an error changes nothing: put, carryOut");
        busy("no character", BAD_VALUE, x -> x.put(0));
        busy("a code that is too low", BAD_VALUE, x -> x.put(32));
        busy("a good code behind a bad one", BAD_VALUE, x -> x.put(0x2041));
        full("a character too many", TOO_MANY, x -> x.put('c'));
        Supplier<ProxyVotes> wrong = Check.after(Committees::busy, x -> x.put('m'));
        CHECK.refused("a fault", BAD_TEXT, wrong, ProxyVotes::carryOut);
        CHECK.refused("an empty pad", BAD_TEXT, Committees::tied, ProxyVotes::carryOut);
        CHECK.asks("fault", 8, wrong, ProxyVotes::fault);
    }

    private static void historyFails() {
        CHECK.sentence("A call that returns an error changes nothing: undo, save, restore");
        CHECK.refused("nothing to undo", NOT_POSSIBLE, ProxyVotes::new, ProxyVotes::undo);
        busy("no slot to save in", BAD_VALUE, x -> x.save(2));
        busy("no slot to restore", BAD_VALUE, x -> x.restore(2));
        tied("nothing saved", NOT_POSSIBLE, x -> x.restore(0));
        tied("nothing saved", NOT_POSSIBLE, x -> x.restore(1));
    }

    /** Each call has two errors or more. */
    private static void severalErrors() {
        CHECK.sentence("it names its errors in the order in which they are checked, and the first one that applies");
        full("member: bad weight, too many", BAD_VALUE, x -> x.member(0, 0));
        full("member: bad group, too many", BAD_VALUE, x -> x.member(1, 4));
        full("item: bad kind, too many", BAD_VALUE, x -> x.item(3, 0));
        full("item: bad groups, too many", BAD_VALUE, x -> x.item(0, 16));
        busy("later: no member, bad minute", NO_SUCH, x -> x.later(0, 4, 1));
        busy("later: no member, bad comes", NO_SUCH, x -> x.later(1, 4, 2));
        full("later: no member, too many", NO_SUCH, x -> x.later(1, 12, 1));
        full("later: bad minute, too many", BAD_VALUE, x -> x.later(0, 0, 1));
        full("later: bad comes, too many", BAD_VALUE, x -> x.later(1, 0, 2));
        busy("tell: no member, bad choice", NO_SUCH, x -> x.tell(4, 2, 3));
        busy("tell: no item, bad choice", NO_SUCH, x -> x.tell(1, 3, 3));
        busy("tell: no member, closed", NO_SUCH, x -> x.tell(4, 0, 1));
        busy("tell: bad choice, closed", BAD_VALUE, x -> x.tell(1, 0, 3));
        busy("recuse: no member, bad is", NO_SUCH, x -> x.recuse(4, 2, 2));
        busy("recuse: no item, bad is", NO_SUCH, x -> x.recuse(1, 3, 2));
        busy("recuse: no member, closed", NO_SUCH, x -> x.recuse(4, 0, 1));
        busy("recuse: bad is, closed", BAD_VALUE, x -> x.recuse(1, 0, 2));
        busy("open: no item, another one is open", NO_SUCH, x -> x.open(3));
        busy("vote: no member, bad choice", NO_SUCH, x -> x.vote(4, 3));
        tied("vote: no member, nothing is open", NO_SUCH, x -> x.vote(3, 1));
        tied("vote: bad choice, nothing is open", BAD_VALUE, x -> x.vote(0, 3));
        busy("vote: bad choice, absent", BAD_VALUE, x -> x.vote(3, 3));
        busy("cast: bad choice, nothing is tied", BAD_VALUE, x -> x.cast(0));
        CHECK.refused("pass: bad minutes, too late", BAD_VALUE, Committees::atTheEnd, x -> x.pass(601));
        busy("ofMember: no member, bad what", NO_SUCH, x -> x.ofMember(4, 6));
        busy("ofItem: no item, bad what", NO_SUCH, x -> x.ofItem(3, 12));
        busy("at: no member, bad what", NO_SUCH, x -> x.at(4, 0, 7));
        busy("at: no item, bad what", NO_SUCH, x -> x.at(0, 3, 7));
        busy("needed: no item, bad what", NO_SUCH, x -> x.needed(3, 2));
        busy("needed: bad what, closed", BAD_VALUE, x -> x.needed(0, 2));
        busy("bestHolder: no item, the member is present", NO_SUCH, x -> x.bestHolder(0, 3));
        full("put: bad code, too many", BAD_VALUE, x -> x.put(32));
        tied("restore: no slot, nothing saved", BAD_VALUE, x -> x.restore(2));
    }

    private static void noneIsNoError() {
        CHECK.sentence("NONE (-6) is not an error");
        Supplier<ProxyVotes> open = () -> Committees.opened(2);
        CHECK.change("a first holder", NONE, open, x -> x.proxy(0, NONE, 1));
        CHECK.change("a holder taken back who was none", NONE, open, x -> x.proxy(0, 0, NONE));
        CHECK.change("a first choice", NONE, open, x -> x.tell(0, 0, 1));
        CHECK.change("a first vote", NONE, open, x -> x.vote(0, 1));
        CHECK.change("a vote in a text, and what stands behind it", 2, Check.after(open,
            x -> x.put(Check.packed("vA1;m1"))), ProxyVotes::carryOut);
        ProxyVotes y = Committees.opened(2);
        Check.write(y, "vA1;vB2;m7");
        CHECK.due("a text goes on behind NONE", 3, y.carryOut());
        CHECK.due("up to its end", 7, y.count(0));
    }

    private static void noneOnlyWithoutErrors() {
        CHECK.sentence("it is returned only if no error applies");
        Supplier<ProxyVotes> lost = Check.after(Committees::tied, x -> x.cast(2));
        CHECK.refused("needed: there is no such set, but the item is closed", NOT_POSSIBLE, lost, x -> x.needed(0, 0));
        CHECK.refused("needed: there is no such set, but what is bad", BAD_VALUE, () -> Committees.plain(1),
            x -> x.needed(0, 2));
        CHECK.asks("needed: there is no such set", NONE, () -> Committees.plain(1), x -> x.needed(0, 0));
        CHECK.refused("bestHolder: there is nobody else, but the member is present", NOT_POSSIBLE,
            () -> Committees.opened(1), x -> x.bestHolder(0, 0));
        CHECK.asks("bestHolder: there is nobody", NONE, () -> Committees.plain(1), x -> x.bestHolder(0, 0));
        CHECK.refused("quorumAt: never, but there is no item", NO_SUCH, () -> Committees.plain(1), x -> x.quorumAt(1));
        CHECK.asks("quorumAt: never", NONE, () -> Committees.plain(1), x -> x.quorumAt(0));
        CHECK.refused("proxy: there was none, but the holder is the member", NO_SUCH, () -> Committees.plain(1),
            x -> x.proxy(0, 0, 0));
        CHECK.refused("tell: there was none, but the choice is bad", BAD_VALUE, () -> Committees.plain(1),
            x -> x.tell(0, 0, -5));
        CHECK.refused("vote: there was none, but the member is absent", NOT_POSSIBLE,
            Check.after(() -> Committees.opened(2), x -> x.go(1)), x -> x.vote(1, 1));
        CHECK.refused("at: nobody speaks, but there is no member", NO_SUCH, () -> Committees.plain(1),
            x -> x.at(1, 0, 0));
    }

    private static void numbersAndMasks() {
        CHECK.sentence("Everything is numbered from 0. Sets are bit masks.");
        ProxyVotes x = new ProxyVotes();
        CHECK.due("the first member", 0, x.member(1, 0));
        CHECK.due("the first item", 0, x.item(0, 0));
        for (int member = 1; member < 12; member++) {
            x.member(1, 0);
        }
        x.come(0);
        CHECK.due("the first member is the lowest bit", 1, x.count(3));
        x.come(11);
        CHECK.due("the last member is bit 11", 1 + 2048, x.count(3));
        CHECK.due("bits of decisive", 1 + 2048, x.decisive(0));
        x.proxy(10, NONE, 11);
        x.proxy(1, NONE, 11);
        CHECK.due("bits of the absent ones", 2 + 1024, x.at(11, 0, 6));
    }

    private static void timeAtFirst() {
        CHECK.sentence("Time is in minutes, 0 at first.");
        ProxyVotes x = new ProxyVotes();
        CHECK.due("at first", 0, x.count(0));
        CHECK.due("after a minute", 1, x.pass(1));
        CHECK.due("the minute", 1, x.count(0));
    }

    private static void as512Calls() {
        CHECK.sentence("An object is used for at most 512 calls after it has been made");
        ProxyVotes x = new ProxyVotes();
        x.member(1, 0);
        for (int call = 2; call <= 506; call++) {
            CHECK.due("call " + call, call % 2 == 0 ? 1 : 0, call % 2 == 0 ? x.come(0) : x.go(0));
        }
        for (int call = 507; call <= 512; call++) {
            CHECK.due("call " + call, 512 - call, x.undo());
        }
        ProxyVotes y = Committees.full();
        for (int call = 54 + 1; call < 512; call++) {
            y.put('c');
        }
        CHECK.due("the last one", TOO_MANY, y.later(1, 0, 1));
    }
}
