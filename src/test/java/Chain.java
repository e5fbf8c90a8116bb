import java.util.ArrayList;
import java.util.List;

/**
 * A MailChain as the tests use it: for no more than the 512 calls that the document allows.
 *
 * <p>The calls that may change an object are kept. When a test only goes on looking, a new object
 * is brought to the same state by them; and a test can have the same state twice.
 */
final class Chain {
    private static final int MOST_CALLS = 512;

    /** A call on an object. */
    interface Call {
        long on(MailChain chain);
    }

    private final List<Call> history = new ArrayList<>();
    private MailChain chain = new MailChain();
    private int calls = 0;

    /** Another object on which the same calls were made. */
    Chain copy() {
        Chain other = new Chain();
        other.history.addAll(history);
        other.renew();
        return other;
    }

    /** A call that is kept, whatever it answers or throws. */
    long call(Call call) {
        renewIfUsedUp();
        history.add(call);
        calls++;
        return call.on(chain);
    }

    /** A call that changes nothing. */
    private int look(Call call) {
        renewIfUsedUp();
        calls++;
        return (int) call.on(chain);
    }

    private void renewIfUsedUp() {
        if (calls == MOST_CALLS) {
            renew();
        }
    }

    private void renew() {
        chain = new MailChain();
        calls = history.size();
        if (calls >= MOST_CALLS) {
            throw new AssertionError("a test needs more than " + MOST_CALLS + " calls");
        }
        for (Call call : history) {
            repeat(call);
        }
    }

    private void repeat(Call call) {
        try {
            call.on(chain);
        } catch (RuntimeException e) {
            // it threw before, too
        }
    }

    int type(long w, int n) {
        return (int) call(on -> on.type(w, n));
    }

    int again(int n) {
        return (int) call(on -> on.again(n));
    }

    int add(int kind, int n, int mode, int owner, int group, int time) {
        return (int) call(on -> on.add(kind, n, mode, owner, group, time));
    }

    int link(int i) {
        return (int) call(on -> on.link(i));
    }

    int clear() {
        return (int) call(MailChain::clear);
    }

    int pack(int width, int length) {
        return (int) call(on -> on.pack(width, length));
    }

    int part(int k, int i) {
        return look(on -> on.part(k, i));
    }

    int stage(int what, int i) {
        return look(on -> on.stage(what, i));
    }

    int checksum() {
        return (int) call(MailChain::checksum);
    }

    int receive() {
        return (int) call(MailChain::receive);
    }

    int pass(int k, int at, int x) {
        return (int) call(on -> on.pass(k, at, x));
    }

    void forge(int what, int width) {
        call(on -> {
            on.forge(what, width);
            return 0;
        });
    }

    int empty() {
        return (int) call(MailChain::empty);
    }

    int unpack() {
        return (int) call(MailChain::unpack);
    }

    int about(int tree, int what, int i) {
        return look(on -> on.about(tree, what, i));
    }

    int byteOf(int tree, int i, int k) {
        return look(on -> on.byteOf(tree, i, k));
    }
}
