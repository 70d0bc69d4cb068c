import java.util.function.Supplier;

/** Each range of the document: all that is good in it, and what is refused first on each side. */
public final class RangesEdgesTest {
    private static final int NO_SUCH = -1, BAD_VALUE = -2, NOT_POSSIBLE = -5, NONE = -6;
    private static final int NO_OTHER = Integer.MAX_VALUE;
    private static final Check CHECK = new Check();

    /** A call with the number that the range is about. */
    private interface Call {
        int with(ProxyVotes x, int number);
    }

    public static void main(String[] args) {
        settings();
        newMembers();
        newItems();
        members();
        items();
        choices();
        flags();
        minutes();
        whats();
        slots();
        holders();
        characters();
        CHECK.end();
    }

    /** The call takes lowest to highest, and the other number, and nothing else, and then fails with the error. */
    private static void range(String what, int error, int[] good, Supplier<ProxyVotes> made, Call call) {
        for (int number = good[0]; number <= good[1]; number++) {
            int answer = call.with(made.get(), number);
            CHECK.that(what + " " + number + " is good: " + answer, answer >= 0 || answer == NONE);
        }
        int other = good.length > 2 ? good[2] : NO_OTHER;
        // Masks and narrow numbers would take some of these for good ones.
        int[] far = {good[1] + 2, good[0] - 2, -3, -4, -5, -6, -7, 12, 13, 31, 32, 33, 64, 127, 128, 255, 256, -32,
            -256, 32768, 65535, 65536, -65536, 1 << 30, 1 << 31, Integer.MAX_VALUE, Integer.MAX_VALUE - 1,
            Integer.MIN_VALUE + 1, good[0] + 32, good[0] + 64, good[0] + 256, good[0] + 65536};
        CHECK.refused(what + " " + (good[0] - 1), error, made, x -> call.with(x, good[0] - 1));
        CHECK.refused(what + " " + (good[1] + 1), error, made, x -> call.with(x, good[1] + 1));
        for (int number : far) {
            if ((number < good[0] || number > good[1]) && number != other) {
                CHECK.due(what + " " + number, error, call.with(made.get(), number));
            }
        }
        if (other != NO_OTHER) {
            int answer = call.with(made.get(), other);
            CHECK.that(what + " " + other + " is good: " + answer, answer >= 0 || answer == NONE);
        }
    }

    private static int[] from(int lowest, int highest) {
        return new int[] {lowest, highest};
    }

    private static int[] orNone(int lowest, int highest) {
        return new int[] {lowest, highest, NONE};
    }

    private static void settings() {
        CHECK.sentence("In parentheses: range; first value");
        String[] names = {"QUORUM", "LATE_QUORUM", "LATE", "LIMIT", "CHAIN", "CASTING"};
        int[] highest = {100, 100, 600, 6, 1, 1};
        int[] first = {50, 34, 240, 2, 1, 1};
        for (int number = 0; number < names.length; number++) {
            int setting = number;
            int[] good = from(0, highest[setting]);
            range(names[setting], BAD_VALUE, good, Committees::busy, (x, value) -> x.set(setting, value));
            CHECK.due(names[setting] + " at first", first[setting], new ProxyVotes().count(16 + setting));
            CHECK.due(names[setting] + " at first", first[setting], new ProxyVotes().set(setting, 0));
            ProxyVotes x = new ProxyVotes();
            x.set(setting, highest[setting]);
            CHECK.due(names[setting] + " is kept", highest[setting], x.set(setting, 0));
            CHECK.due(names[setting] + " is kept", 0, x.count(16 + setting));
            for (int other = 0; other < names.length; other++) {
                CHECK.due("only " + names[setting], other == setting ? 0 : first[other], x.count(16 + other));
            }
        }
        CHECK.sentence("BAD_VALUE if there is no such setting");
        range("a setting", BAD_VALUE, from(0, 5), Committees::busy, (x, setting) -> x.set(setting, 0));
        range("a setting", BAD_VALUE, from(0, 5), Committees::busy, (x, setting) -> x.set(setting, 1));
    }

    private static void newMembers() {
        CHECK.sentence("A member has a weight (1 to 9), a group (0 to 3)");
        range("weight", BAD_VALUE, from(1, 9), Committees::busy, (x, weight) -> x.member(weight, 0));
        range("group", BAD_VALUE, from(0, 3), Committees::busy, (x, group) -> x.member(9, group));
        ProxyVotes x = new ProxyVotes();
        x.member(1, 3);
        x.member(9, 0);
        CHECK.due("the lowest weight", 1, x.ofMember(0, 0));
        CHECK.due("the highest group", 3, x.ofMember(0, 1));
        CHECK.due("the highest weight", 9, x.ofMember(1, 0));
        CHECK.due("the lowest group", 0, x.ofMember(1, 1));
    }

    private static void newItems() {
        CHECK.sentence(
            "An item has a kind (0 majority, 1 two thirds, 2 all), a set of groups that it touches (0 to 15)");
        range("kind", BAD_VALUE, from(0, 2), Committees::busy, (x, kind) -> x.item(kind, 15));
        range("groups", BAD_VALUE, from(0, 15), Committees::busy, (x, groups) -> x.item(2, groups));
        ProxyVotes x = new ProxyVotes();
        x.item(0, 15);
        x.item(2, 0);
        CHECK.due("the lowest kind", 0, x.ofItem(0, 0));
        CHECK.due("the highest groups", 15, x.ofItem(0, 1));
        CHECK.due("the highest kind", 2, x.ofItem(1, 0));
        CHECK.due("the lowest groups", 0, x.ofItem(1, 1));
    }

    private static ProxyVotes allAbsent() {
        return Committees.plain(4);
    }

    private static ProxyVotes allPresent() {
        return Committees.opened(4);
    }

    private static void members() {
        CHECK.sentence("NO_SUCH if there is no such member");
        int[] four = from(0, 3);
        range("chair", NO_SUCH, four, Committees::busy, ProxyVotes::chair);
        range("come", NO_SUCH, four, RangesEdgesTest::allAbsent, ProxyVotes::come);
        range("go", NO_SUCH, four, RangesEdgesTest::allPresent, ProxyVotes::go);
        range("later", NO_SUCH, four, Committees::busy, (x, member) -> x.later(1, member, 1));
        range("proxy", NO_SUCH, four, Committees::busy, (x, member) -> x.proxy(member, 0, NONE));
        range("proxy", NO_SUCH, four, Committees::busy, (x, member) -> x.proxy(member, NONE, member == 0 ? 1 : 0));
        range("tell", NO_SUCH, four, Committees::busy, (x, member) -> x.tell(member, 2, 1));
        range("recuse", NO_SUCH, four, Committees::busy, (x, member) -> x.recuse(member, 2, 1));
        range("vote", NO_SUCH, four, RangesEdgesTest::allPresent, (x, member) -> x.vote(member, 1));
        range("ofMember", NO_SUCH, four, Committees::busy, (x, member) -> x.ofMember(member, 0));
        range("at", NO_SUCH, four, Committees::busy, (x, member) -> x.at(member, 0, 5));
        range("power", NO_SUCH, four, Committees::busy, ProxyVotes::power);
        range("bestHolder", NO_SUCH, four, RangesEdgesTest::allAbsent, (x, member) -> x.bestHolder(member, 0));
    }

    private static void items() {
        CHECK.sentence("NO_SUCH if there is no such item");
        int[] three = from(0, 2);
        Supplier<ProxyVotes> waiting = () -> {
            ProxyVotes x = Committees.plain(2);
            x.item(1, 0);
            x.item(2, 0);
            x.come(0);
            return x;
        };
        range("proxy", NO_SUCH, orNone(0, 2), Committees::busy, (x, item) -> x.proxy(0, item, 1));
        range("tell", NO_SUCH, three, waiting, (x, item) -> x.tell(0, item, 1));
        range("recuse", NO_SUCH, three, waiting, (x, item) -> x.recuse(0, item, 1));
        range("open", NO_SUCH, three, waiting, ProxyVotes::open);
        range("ofItem", NO_SUCH, three, Committees::busy, (x, item) -> x.ofItem(item, 0));
        range("at", NO_SUCH, three, Committees::busy, (x, item) -> x.at(0, item, 5));
        range("wouldBe", NO_SUCH, three, waiting, ProxyVotes::wouldBe);
        range("decisive", NO_SUCH, three, waiting, ProxyVotes::decisive);
        range("needed", NO_SUCH, three, waiting, (x, item) -> x.needed(item, 1));
        range("quorumAt", NO_SUCH, three, waiting, ProxyVotes::quorumAt);
        range("bestHolder", NO_SUCH, three, waiting, (x, item) -> x.bestHolder(1, item));
    }

    private static void choices() {
        CHECK.sentence("0 abstains, 1 for, 2 against");
        range("vote", BAD_VALUE, from(0, 2), RangesEdgesTest::allPresent, (x, choice) -> x.vote(3, choice));
        CHECK.sentence("choice: 0 to 2, or NONE");
        range("tell", BAD_VALUE, orNone(0, 2), Committees::busy, (x, choice) -> x.tell(3, 2, choice));
        CHECK.sentence("choice: 1 for, 2 against");
        range("cast", BAD_VALUE, from(1, 2), Committees::tied, ProxyVotes::cast);
        ProxyVotes x = Committees.tied();
        CHECK.due("1 is for", ProxyVotes.CARRIED, x.cast(1));
        x.undo();
        CHECK.due("2 is against", ProxyVotes.LOST, x.cast(2));
    }

    private static void flags() {
        CHECK.sentence("is: 1 or 0");
        range("recuse", BAD_VALUE, from(0, 1), Committees::busy, (x, is) -> x.recuse(0, 2, is));
        CHECK.sentence("comes: 1 if the member comes, 0 if the member goes");
        range("later", BAD_VALUE, from(0, 1), Committees::busy, (x, comes) -> x.later(7, 0, comes));
        ProxyVotes x = Committees.plain(2);
        x.come(1);
        x.later(1, 0, 1);
        x.later(1, 1, 0);
        x.pass(1);
        CHECK.due("1 comes, 0 goes", 1, x.count(3));
    }

    private static ProxyVotes atMinute(int minute) {
        ProxyVotes x = Committees.plain(2);
        for (int passed = 0; passed < minute; passed += 600) {
            x.pass(Math.min(600, minute - passed));
        }
        return x;
    }

    private static void minutes() {
        CHECK.sentence("minutes: 1 to 600");
        range("pass", BAD_VALUE, from(1, 600), Committees::busy, ProxyVotes::pass);
        CHECK.sentence("minute: the present one plus 1, to the present one plus 600");
        int[] minutes = {0, 1, 250, 600, 8400, 8999, 9000};
        for (int minute : minutes) {
            Supplier<ProxyVotes> made = () -> atMinute(minute);
            CHECK.due("the minute", minute, made.get().count(0));
            int[] good = from(minute + 1, minute + 600);
            range("later at " + minute, BAD_VALUE, good, made, (x, when) -> x.later(when, 0, 1));
        }
        CHECK.sentence("NOT_POSSIBLE if it would be above 9000");
        CHECK.due("to 9000 at once", 9000, atMinute(8400).pass(600));
        CHECK.refused("to 9001 at once", NOT_POSSIBLE, () -> atMinute(8401), x -> x.pass(600));
        CHECK.due("one minute to 9000", 9000, atMinute(8999).pass(1));
        CHECK.refused("two minutes to 9001", NOT_POSSIBLE, () -> atMinute(8999), x -> x.pass(2));
        CHECK.refused("one minute above", NOT_POSSIBLE, () -> atMinute(9000), x -> x.pass(1));
        CHECK.refused("as far above as may be told", NOT_POSSIBLE, () -> atMinute(9000), x -> x.pass(600));
    }

    private static void whats() {
        CHECK.sentence("BAD_VALUE if what is out of range");
        range("ofMember", BAD_VALUE, from(0, 5), Committees::busy, (x, what) -> x.ofMember(1, what));
        range("ofItem", BAD_VALUE, from(0, 11), Committees::busy, (x, what) -> x.ofItem(0, what));
        range("ofItem of an open one", BAD_VALUE, from(0, 11), Committees::busy, (x, what) -> x.ofItem(1, what));
        range("at", BAD_VALUE, from(0, 6), Committees::busy, (x, what) -> x.at(1, 1, what));
        range("count", BAD_VALUE, from(0, 21), Committees::busy, ProxyVotes::count);
        range("needed", BAD_VALUE, from(0, 1), Committees::busy, (x, what) -> x.needed(2, what));
    }

    private static void slots() {
        CHECK.sentence("slot: 0 or 1");
        range("save", BAD_VALUE, from(0, 1), Committees::busy, ProxyVotes::save);
        range("restore", BAD_VALUE, from(0, 1), Committees::busy, ProxyVotes::restore);
    }

    private static void holders() {
        CHECK.sentence("holder: a member, or NONE if there is to be none any more");
        range("proxy for one item", NO_SUCH, orNone(1, 3), Committees::busy, (x, holder) -> x.proxy(0, 2, holder));
        range("proxy for all items", NO_SUCH, orNone(1, 3), Committees::busy, (x, holder) -> x.proxy(0, NONE, holder));
        range("proxy of the last one", NO_SUCH, orNone(0, 2), Committees::busy, (x, holder) -> x.proxy(3, 1, holder));
        CHECK.sentence("or the holder is the member");
        for (int member = 0; member < 4; member++) {
            int same = member;
            CHECK.refused("for one item", NO_SUCH, Committees::busy, x -> x.proxy(same, 2, same));
            CHECK.refused("for all items", NO_SUCH, Committees::busy, x -> x.proxy(same, NONE, same));
        }
    }

    private static void characters() {
        CHECK.sentence("BAD_VALUE if there is no character, a code is not 33 to 126");
        range("put", BAD_VALUE, from(33, 126), Committees::tied, ProxyVotes::put);
        for (int place = 0; place < 8; place++) {
            for (int code = 0; code < 256; code++) {
                long around = Check.packed("+A;-B;m1") & ~(255L << 8 * place);
                // A 0 as the first of eight is good: then they are seven.
                boolean good = code >= 33 && code <= 126 || code == 0 && place == 7;
                int due = good ? code == 0 ? 7 : 8 : BAD_VALUE;
                CHECK.due("the code " + code + " with " + place + " behind it", due,
                    new ProxyVotes().put(around | (long) code << 8 * place));
            }
        }
    }
}
