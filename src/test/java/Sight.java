/** All that an object answers without being changed, in one text; of the log only the first and the last row. */
final class Sight {
    private Sight() {
    }

    static String of(PaneStreet x) {
        StringBuilder all = new StringBuilder();
        for (int what = 0; what <= 12; what++) {
            all.append(" count").append(what).append('=').append(x.count(what));
        }
        int panes = x.count(0);
        int walkers = x.count(1);
        for (int pane = 0; pane < panes; pane++) {
            for (int what = 0; what <= 7; what++) {
                all.append(" pane").append(pane).append('.').append(what).append('=').append(x.pane(pane, what));
            }
            for (int other = 0; other < pane; other++) {
                all.append(" way").append(pane).append('.').append(other).append('=').append(x.isOpen(pane, other));
            }
            all.append(" led=").append(x.led(pane, false)).append('.').append(x.led(pane, true));
        }
        for (int walker = 0; walker < walkers; walker++) {
            for (int what = 0; what <= 6; what++) {
                all.append(" walker").append(walker).append('.').append(what).append('=').append(x.walker(walker, what));
            }
            for (int other = 0; other < walkers; other++) {
                if (other != walker) {
                    all.append(" likes").append(walker).append('.').append(other).append('=').append(x.likes(walker, other));
                }
            }
            for (int pane = 0; pane < panes; pane++) {
                all.append(" will").append(walker).append('.').append(pane).append('=').append(x.will(walker, pane));
            }
        }
        for (int what = 0; what <= 4; what++) {
            all.append(" log").append(what).append('=').append(x.log(0, what)).append('.').append(x.log(x.count(11) - 1, what));
        }
        int seed = x.seed(0);
        x.seed(seed);
        return all.append(" seed=").append(seed).append(" trial=").append(x.trial(60, true)).toString();
    }
}
